/-! LAW: the class's reading and the reference's side by side -/
def sgn (t : Nat → Int32) (len pos : Nat) : Int32 := if len ≤ pos then -1 else t pos
def RdL (D len : Nat) (t : Nat → Int32) (o : Nat) (Dl Cl : List Int32) (pos : Nat) (MC MM : Mem) : Prop := (len ≤ 120 ∧ MC.1 7 0 = nI len ∧ MM.1 66 6 = nI len ∧ ∀ i, i < len → MC.1 8 i = t i ∧ MM.1 71 i = t i) ∧ (pos ≤ len ∧ MC.1 7 2 = nI pos ∧ MM.1 66 14 = nI pos) ∧ (D = 9 ∨ D = 10) ∧ MC.2.2.1 = D ∧ MC.1 7 4 = nI Dl.length ∧ (∀ (j : Nat) (c : Int32), Dl[j]? = some c → MC.1 D j = c) ∧ MM.1 66 15 = nI o ∧ MM.1 66 16 = nI Cl.length ∧ ∀ (j : Nat) (c : Int32), Cl[j]? = some c → MM.1 79 j = c
def PcL (D a i : Nat) : Prop := (a = 7 ∧ (i = 2 ∨ i = 4)) ∨ a = D
def PmL (a i : Nat) : Prop := (a = 66 ∧ 14 ≤ i ∧ i ≤ 16) ∨ a = 79
def GE (E : List Int32) : Prop := (∀ d, dep d E = some (d + 1)) ∧ ∀ c ∈ E, 0 ≤ c ∧ c ≤ 10017
def Xs (D len : Nat) (t : Nat → Int32) (o : Nat) (fc fm : Mem → Option (Int32 × Mem)) : Prop := ∀ Dl Cl pos MC MM, RdL D len t o Dl Cl pos MC MM → Dl.length ≤ 2 * pos → Cl.length ≤ pos → ∃ v E pos' MC' MM', fc MC = some (v, MC') ∧ fm MM = some (v, MM') ∧ RdL D len t o (Dl ++ E.map phi) (Cl ++ E) pos' MC' MM' ∧ E.length + pos ≤ pos' ∧ Kp (PcL D) MC MC' ∧ Kp PmL MM MM' ∧ (v = 0 ∨ v = 1 ∧ pos < pos' ∧ GE E)
theorem RdL.sc {D len o pos : Nat} {t : Nat → Int32} {Dl Cl : List Int32} {MC MM : Mem} (h : RdL D len t o Dl Cl pos MC MM) : fLaw_sign MC = some (sgn t len pos) := by
  obtain ⟨⟨a1, a2, a3, a4⟩, ⟨b1, b2, b3⟩, -⟩ := h
  unfold fLaw_sign sgn
  rw [a2, b2]
  by_cases q : len ≤ pos
  · rw [if_pos q, if_pos ((nI_leI (by omega) (by omega)).mpr q)]
  · have q' : ¬ nI len ≤ nI pos := fun z => q ((nI_leI (by omega) (by omega)).mp z)
    rw [if_neg q, if_neg q', rdI_n (by omega) (by omega), Option.bind_some, (a4 pos (by omega)).1]
theorem RdL.sm {D len o pos : Nat} {t : Nat → Int32} {Dl Cl : List Int32} {MC MM : Mem} (h : RdL D len t o Dl Cl pos MC MM) : fMd_sign MM = some (sgn t len pos) := by
  obtain ⟨⟨a1, a2, a3, a4⟩, ⟨b1, b2, b3⟩, -⟩ := h
  unfold fMd_sign sgn
  rw [a3, b3]
  by_cases q : len ≤ pos
  · rw [if_pos q, if_pos ((nI_leI (by omega) (by omega)).mpr q)]
  · have q' : ¬ nI len ≤ nI pos := fun z => q ((nI_leI (by omega) (by omega)).mp z)
    rw [if_neg q, if_neg q', rdI_n (by omega) (by omega), Option.bind_some, (a4 pos (by omega)).2]
theorem sgn_in {t : Nat → Int32} {len pos : Nat} {c : Int32} (h : sgn t len pos = c) (hc : ¬ c = -1) : pos < len := by
  unfold sgn at h
  by_cases q : len ≤ pos
  · rw [if_pos q] at h; exact absurd h.symm hc
  · omega
theorem RdL.adv {D len o pos : Nat} {t : Nat → Int32} {Dl Cl : List Int32} {MC MM : Mem} (h : RdL D len t o Dl Cl pos MC MM) (hp : pos < len) : RdL D len t o Dl Cl (pos + 1) (wI MC 7 2 (MC.1 7 2 + 1)) (wI MM 66 14 (MM.1 66 14 + 1)) ∧ Kp (PcL D) MC (wI MC 7 2 (MC.1 7 2 + 1)) ∧ Kp PmL MM (wI MM 66 14 (MM.1 66 14 + 1)) := by
  obtain ⟨⟨a1, a2, a3, a4⟩, ⟨b1, b2, b3⟩, c1, c2, c3, c4, c5, c6, c7⟩ := h
  refine ⟨⟨⟨a1, a2, a3, a4⟩, ⟨hp, ?_, ?_⟩, c1, c2, c3, fun j c hj => ?_, c5, c6, c7⟩, Kp.w _ _ (by unfold PcL; omega), Kp.w _ _ (by unfold PmL; omega)⟩
  · rw [b2, nI_1]; rfl
  · rw [b3, nI_1]; rfl
  · rw [← c4 j c hj]
    rcases c1 with rfl | rfl <;> rfl
theorem get_snoc {l : List Int32} {x c : Int32} {j : Nat} (h : (l ++ [x])[j]? = some c) : (j < l.length ∧ l[j]? = some c) ∨ (j = l.length ∧ c = x) := by
  rw [List.getElem?_append] at h
  by_cases q : j < l.length
  · rw [if_pos q] at h; exact Or.inl ⟨q, h⟩
  · rw [if_neg q] at h
    right
    obtain ⟨z, hz⟩ : ∃ z, j - l.length = z := ⟨_, rfl⟩
    rw [hz] at h
    match z with
    | 0 => exact ⟨by omega, (Option.some.inj h).symm⟩
    | z + 1 => simp at h
theorem RdL.emit {D len o pos : Nat} {t : Nat → Int32} {Dl Cl : List Int32} {MC MM : Mem} (h : RdL D len t o Dl Cl pos MC MM) (hD : Dl.length < 240) (hC : Cl.length < 200) (x c : Int32) : ∃ MC' MM', fLaw_step MC x = some MC' ∧ fMd_codes MM c = some (1, MM') ∧ RdL D len t o (Dl ++ [x]) (Cl ++ [c]) pos MC' MM' ∧ Kp (PcL D) MC MC' ∧ Kp PmL MM MM' := by
  obtain ⟨⟨a1, a2, a3, a4⟩, ⟨b1, b2, b3⟩, c1, c2, c3, c4, c5, c6, c7⟩ := h
  have n7 : D ≠ 7 := by omega
  have n8 : D ≠ 8 := by omega
  have eD : ∀ (y : Int32) (a i : Nat), a ≠ D → (wI MC D Dl.length y).1 a i = MC.1 a i := fun y a i ha => by rw [wI_1, if_neg ha]
  refine ⟨wI (wI MC D Dl.length x) 7 4 (nI (Dl.length + 1)), wI (wI MM 66 16 (nI (Cl.length + 1))) 79 Cl.length c, ?_, ?_, ⟨⟨a1, ?_, a3, fun i hi => ⟨?_, (a4 i hi).2⟩⟩, ⟨b1, ?_, b3⟩, c1, c2, ?_, fun j z hj => ?_, c5, ?_, fun j z hj => ?_⟩, (Kp.w _ _ (by unfold PcL; omega)).tr (Kp.w _ _ (by unfold PcL; omega)), (Kp.w _ _ (by unfold PmL; omega)).tr (Kp.w _ _ (by unfold PmL; omega))⟩
  · have l1 : lnD MC.2.2.1 = some 240 := by rw [c2, lnD, if_pos c1]
    have l2 : ¬ (240 : Int32) ≤ nI Dl.length := fun z => absurd ((leL (b := 240) 240 rfl (by omega) (by omega)).mp z) (by omega)
    have l3 : stD MC.2.2.1 MC (nI Dl.length) x = some (wI MC D Dl.length x) := by rw [c2, stD, if_pos c1, stI_n hD (by omega)]
    rw [fLaw_step, l1, Option.bind_some, c3, if_neg l2, l3, Option.bind_some, eD _ _ _ n7.symm, c3, nI_1]
  · rw [fMd_codes, c6, nI_1, stI_n hC (by omega), Option.bind_some]
  · show (wI MC D Dl.length x).1 7 0 = _
    rw [eD _ _ _ n7.symm]; exact a2
  · show (wI MC D Dl.length x).1 8 i = _
    rw [eD _ _ _ n8.symm]; exact (a4 i hi).1
  · show (wI MC D Dl.length x).1 7 2 = _
    rw [eD _ _ _ n7.symm]; exact b2
  · rw [List.length_append]; rfl
  · have : (wI (wI MC D Dl.length x) 7 4 (nI (Dl.length + 1))).1 D j = if j = Dl.length then x else MC.1 D j := by
      rw [wI_1, if_neg n7, wI_1, if_pos rfl, upd_a]
    rw [this]
    rcases get_snoc hj with ⟨q1, q2⟩ | ⟨q1, q2⟩
    · rw [if_neg (by omega)]; exact c4 j z q2
    · rw [if_pos q1, q2]
  · rw [List.length_append]; rfl
  · have : (wI (wI MM 66 16 (nI (Cl.length + 1))) 79 Cl.length c).1 79 j = if j = Cl.length then c else MM.1 79 j := by
      rw [wI_1, if_pos rfl, upd_a]; rfl
    rw [this]
    rcases get_snoc hj with ⟨q1, q2⟩ | ⟨q1, q2⟩
    · rw [if_neg (by omega)]; exact c7 j z q2
    · rw [if_pos q1, q2]
theorem dep_ap : ∀ (E F : List Int32) (d : Nat), dep d (E ++ F) = Option.bind (dep d E) fun d' => dep d' F := by
  intro E
  induction E with
  | nil => intro F d; rfl
  | cons c r ih =>
    intro F d
    show dep d (c :: (r ++ F)) = _
    rw [dep, dep]
    by_cases h1 : 18 ≤ c ∨ c ≤ 5
    · rw [if_pos h1, if_pos h1, ih]
    rw [if_neg h1, if_neg h1]
    by_cases h2 : c = 16 ∨ c = 17
    · rw [if_pos h2, if_pos h2]
      by_cases h3 : 1 ≤ d
      · rw [if_pos h3, if_pos h3, ih]
      · rw [if_neg h3, if_neg h3]; rfl
    · rw [if_neg h2, if_neg h2]
      by_cases h3 : 2 ≤ d
      · rw [if_pos h3, if_pos h3, ih]
      · rw [if_neg h3, if_neg h3]; rfl
/-- which code an operator has on a level -/
def opc (l : Nat) (v : Int32) : Option Nat := match l with
  | 0 => if v = 124 then some 6 else none
  | 1 => if v = 38 then some 7 else none
  | 2 => if v = 60 then some 8 else if v = 61 then some 9 else if v = 62 then some 10 else none
  | 3 => if v = 43 then some 11 else if v = 45 then some 12 else none
  | _ => if v = 42 then some 13 else if v = 47 then some 14 else if v = 37 then some 15 else none
theorem opc_lev {l : Nat} (hl : l < 5) (v : Int32) : opc l v = none ↔ ¬ fLaw_levelOf v = nI l := by
  have e : l = 0 ∨ l = 1 ∨ l = 2 ∨ l = 3 ∨ l = 4 := by omega
  by_cases h37 : v = 37
  · subst h37; rcases e with rfl | rfl | rfl | rfl | rfl <;> decide
  by_cases h38 : v = 38
  · subst h38; rcases e with rfl | rfl | rfl | rfl | rfl <;> decide
  by_cases h42 : v = 42
  · subst h42; rcases e with rfl | rfl | rfl | rfl | rfl <;> decide
  by_cases h43 : v = 43
  · subst h43; rcases e with rfl | rfl | rfl | rfl | rfl <;> decide
  by_cases h45 : v = 45
  · subst h45; rcases e with rfl | rfl | rfl | rfl | rfl <;> decide
  by_cases h47 : v = 47
  · subst h47; rcases e with rfl | rfl | rfl | rfl | rfl <;> decide
  by_cases h60 : v = 60
  · subst h60; rcases e with rfl | rfl | rfl | rfl | rfl <;> decide
  by_cases h61 : v = 61
  · subst h61; rcases e with rfl | rfl | rfl | rfl | rfl <;> decide
  by_cases h62 : v = 62
  · subst h62; rcases e with rfl | rfl | rfl | rfl | rfl <;> decide
  by_cases h124 : v = 124
  · subst h124; rcases e with rfl | rfl | rfl | rfl | rfl <;> decide
  have z : fLaw_levelOf v = -1 := by simp only [fLaw_levelOf, if_neg h37, if_neg h38, if_neg h42, if_neg h43, if_neg h45, if_neg h47, if_neg h60, if_neg h61, if_neg h62, if_neg h124]
  have z2 : opc l v = none := by rcases e with rfl | rfl | rfl | rfl | rfl <;> simp only [opc, if_neg h37, if_neg h38, if_neg h42, if_neg h43, if_neg h45, if_neg h47, if_neg h60, if_neg h61, if_neg h62, if_neg h124]
  rw [z, z2]
  exact ⟨fun _ => fun q => m1_ne (by omega) q.symm, fun _ => rfl⟩
theorem opc_v {l c : Nat} {v : Int32} (h : opc l v = some c) : ¬ v = -1 ∧ phi (nI c) = -v ∧ 6 ≤ c ∧ c < 16 := by
  unfold opc at h
  split at h
  all_goals (repeat' split at h)
  all_goals first | (cases h; done) | (subst_vars; cases h; decide)
def TailL (D len : Nat) (t : Nat → Int32) (o : Nat) (LC LM : Nat → Mem → Nat → Option (Int32 × Mem)) : Prop := ∀ n f f' j Dl Cl pos MC MM, len - pos ≤ n → n < f → n < f' → j < pos → RdL D len t o Dl Cl pos MC MM → Dl.length ≤ 2 * pos → Cl.length ≤ pos → ∃ v E pos' MC' MM', LC f MC j = some (v, MC') ∧ LM f' MM j = some (v, MM') ∧ RdL D len t o (Dl ++ E.map phi) (Cl ++ E) pos' MC' MM' ∧ E.length + pos ≤ pos' ∧ Kp (PcL D) MC MC' ∧ Kp PmL MM MM' ∧ (v = 0 ∨ v = 1 ∧ (∀ d, dep (d + 1) E = some (d + 1)) ∧ ∀ c ∈ E, 0 ≤ c ∧ c ≤ 10017)
theorem tail_l {D len o l lim : Nat} {t : Nat → Int32} {gc gm : Mem → Option (Int32 × Mem)} {LC LM : Nat → Mem → Nat → Option (Int32 × Mem)} (hsub : Xs D len t o gc gm)
    (hC : ∀ f M v j, j < lim → fLaw_sign M = some v → LC (f + 1) M j = match opc l v with | none => some (1, M) | some _ => Option.bind (gc (wI M 7 2 (M.1 7 2 + 1))) fun q => if ¬ q.1 = 0 then Option.bind (fLaw_step q.2 (-v)) fun q' => LC f q' (j + 1) else some (0, q.2))
    (hM : ∀ f M v j, j < lim → fMd_sign M = some v → LM (f + 1) M j = match opc l v with | none => some (1, M) | some c => Option.bind (gm (wI M 66 14 (M.1 66 14 + 1))) fun q => if ¬ q.1 = 0 then Option.bind (fMd_codes q.2 (nI c)) fun q' => LM f q'.2 (j + 1) else some (0, q.2))
    (h0 : ∀ f M j, lim ≤ j → j < 120 → LC (f + 1) M j = some (1, M) ∧ LM (f + 1) M j = some (1, M)) : TailL D len t o LC LM := by
  intro n
  induction n with
  | zero =>
    intro f f' j Dl Cl pos MC MM hn hf hf' hj hR hD hC'
    obtain ⟨f, rfl⟩ : ∃ g, f = g + 1 := ⟨f - 1, by omega⟩
    obtain ⟨f', rfl⟩ : ∃ g, f' = g + 1 := ⟨f' - 1, by omega⟩
    have p1 := hR.2.1.1
    have l1 := hR.1.1
    have nil : RdL D len t o (Dl ++ ([] : List Int32).map phi) (Cl ++ []) pos MC MM := by rw [List.map_nil, List.append_nil, List.append_nil]; exact hR
    by_cases q : lim ≤ j
    · obtain ⟨e1, e2⟩ := h0 f MC j q (by omega)
      obtain ⟨-, e3⟩ := h0 f' MM j q (by omega)
      exact ⟨1, [], pos, MC, MM, e1, e3, nil, by simp, Kp.rf _ _, Kp.rf _ _, Or.inr ⟨rfl, fun d => rfl, fun c h => by cases h⟩⟩
    · have v1 : opc l (sgn t len pos) = none := by
        have : sgn t len pos = -1 := if_pos (by omega)
        rw [this]
        cases h : opc l (-1) with
        | none => rfl
        | some c => exact absurd rfl (opc_v h).1
      refine ⟨1, [], pos, MC, MM, ?_, ?_, nil, by simp, Kp.rf _ _, Kp.rf _ _, Or.inr ⟨rfl, fun d => rfl, fun c h => by cases h⟩⟩
      · rw [hC f MC _ j (by omega) hR.sc, v1]
      · rw [hM f' MM _ j (by omega) hR.sm, v1]
  | succ n ih =>
    intro f f' j Dl Cl pos MC MM hn hf hf' hj hR hD hC'
    obtain ⟨f, rfl⟩ : ∃ g, f = g + 1 := ⟨f - 1, by omega⟩
    obtain ⟨f', rfl⟩ : ∃ g, f' = g + 1 := ⟨f' - 1, by omega⟩
    have p1 := hR.2.1.1
    have l1 := hR.1.1
    have nil : RdL D len t o (Dl ++ ([] : List Int32).map phi) (Cl ++ []) pos MC MM := by rw [List.map_nil, List.append_nil, List.append_nil]; exact hR
    by_cases q : lim ≤ j
    · obtain ⟨e1, e2⟩ := h0 f MC j q (by omega)
      obtain ⟨-, e3⟩ := h0 f' MM j q (by omega)
      exact ⟨1, [], pos, MC, MM, e1, e3, nil, by simp, Kp.rf _ _, Kp.rf _ _, Or.inr ⟨rfl, fun d => rfl, fun c h => by cases h⟩⟩
    have eC := hC f MC _ j (by omega) hR.sc
    have eM := hM f' MM _ j (by omega) hR.sm
    cases hv : opc l (sgn t len pos) with
    | none =>
      rw [hv] at eC eM
      exact ⟨1, [], pos, MC, MM, eC, eM, nil, by simp, Kp.rf _ _, Kp.rf _ _, Or.inr ⟨rfl, fun d => rfl, fun c h => by cases h⟩⟩
    | some c =>
      rw [hv] at eC eM
      dsimp only at eC eM
      obtain ⟨o1, o2, o3, o4⟩ := opc_v hv
      have hp : pos < len := sgn_in rfl o1
      obtain ⟨R1, K1, K2⟩ := hR.adv hp
      obtain ⟨v, E, pos1, MC1, MM1, a1, a2, a3, a4, a5, a6, a7⟩ := hsub Dl Cl (pos + 1) _ _ R1 (by omega) (by omega)
      rw [a1, Option.bind_some] at eC
      rw [a2, Option.bind_some] at eM
      dsimp only at eC eM
      by_cases v0 : v = 0
      · subst v0
        rw [if_neg (fun z => z rfl)] at eC eM
        exact ⟨0, E, pos1, MC1, MM1, eC, eM, a3, by omega, K1.tr a5, K2.tr a6, Or.inl rfl⟩
      obtain ⟨-, g1, g2, g3⟩ := a7.resolve_left v0
      rw [if_pos v0] at eC eM
      have p2 := a3.2.1.1
      have lE : (Dl ++ E.map phi).length = Dl.length + E.length := by simp
      have lE' : (Cl ++ E).length = Cl.length + E.length := by simp
      obtain ⟨MC2, MM2, b1, b2, b3, b4, b5⟩ := a3.emit (by omega) (by omega) (-(sgn t len pos)) (nI c)
      rw [b1, Option.bind_some] at eC
      rw [b2, Option.bind_some] at eM
      have m1 : (Dl ++ E.map phi) ++ [-(sgn t len pos)] = Dl ++ (E ++ [nI c]).map phi := by rw [List.map_append, List.append_assoc, List.map_cons, List.map_nil, o2]
      rw [m1, List.append_assoc] at b3
      have l2 : (Dl ++ (E ++ [nI c]).map phi).length = Dl.length + E.length + 1 := by simp; omega
      have l3 : (Cl ++ (E ++ [nI c])).length = Cl.length + E.length + 1 := by simp; omega
      obtain ⟨w, E2, pos2, MC3, MM3, c1, c2, c3, c4, c5, c6, c7⟩ := ih f f' (j + 1) _ _ pos1 MC2 MM2 (by omega) (by omega) (by omega) (by omega) b3 (by omega) (by omega)
      rw [c1] at eC
      rw [c2] at eM
      have m2 : Dl ++ (E ++ [nI c]).map phi ++ E2.map phi = Dl ++ ((E ++ [nI c]) ++ E2).map phi := by rw [List.append_assoc, ← List.map_append]
      rw [m2, List.append_assoc Cl] at c3
      refine ⟨w, (E ++ [nI c]) ++ E2, pos2, MC3, MM3, eC, eM, c3, by simp; omega, (K1.tr (a5.tr b4)).tr c5, (K2.tr (a6.tr b5)).tr c6, ?_⟩
      rcases c7 with c7 | ⟨w1, c8, c9⟩
      · exact Or.inl c7
      · refine Or.inr ⟨w1, fun d => ?_, fun x hx => ?_⟩
        · have e1 := g2 (d + 1)
          have e2 : dep (d + 1 + 1) [nI c] = some (d + 1) := by rw [dep_bin c o3 o4, if_pos (by omega)]; rfl
          rw [dep_ap, dep_ap, e1, Option.bind_some, e2, Option.bind_some]
          exact c8 d
        · rcases List.mem_append.mp hx with hx | hx
          · rcases List.mem_append.mp hx with hx | hx
            · exact g3 x hx
            · rw [List.mem_singleton.mp hx]
              exact ⟨(leL (b := 0) 0 rfl (by omega) (by omega)).mpr (by omega), (leR (b := 10017) 10017 rfl (by omega) (by omega)).mpr (by omega)⟩
          · exact c9 x hx
/-- one level: a first of the level beneath, then what follows it -/
theorem lev_l {D len o : Nat} {t : Nat → Int32} {gc gm : Mem → Option (Int32 × Mem)} {LC LM : Nat → Mem → Nat → Option (Int32 × Mem)} (hsub : Xs D len t o gc gm) (ht : TailL D len t o LC LM) (hlen : len ≤ 120) : Xs D len t o (fun M => Option.bind (gc M) fun q => if ¬ q.1 = 0 then LC FU q.2 0 else some (0, q.2)) (fun M => Option.bind (gm M) fun q => if ¬ q.1 = 0 then LM FU q.2 0 else some (0, q.2)) := by
  intro Dl Cl pos MC MM hR hD hC
  obtain ⟨v, E, pos1, MC1, MM1, a1, a2, a3, a4, a5, a6, a7⟩ := hsub Dl Cl pos MC MM hR hD hC
  dsimp only
  rw [a1, a2, Option.bind_some, Option.bind_some]
  dsimp only
  by_cases v0 : v = 0
  · subst v0
    rw [if_neg (fun z => z rfl), if_neg (fun z => z rfl)]
    exact ⟨0, E, pos1, MC1, MM1, rfl, rfl, a3, a4, a5, a6, Or.inl rfl⟩
  obtain ⟨-, g1, g2, g3⟩ := a7.resolve_left v0
  rw [if_pos v0, if_pos v0]
  have lE : (Dl ++ E.map phi).length = Dl.length + E.length := by simp
  have lE' : (Cl ++ E).length = Cl.length + E.length := by simp
  obtain ⟨w, E2, pos2, MC3, MM3, c1, c2, c3, c4, c5, c6, c7⟩ := ht 120 FU FU 0 _ _ pos1 MC1 MM1 (by omega) (fu_lt (by omega)) (fu_lt (by omega)) (by omega) a3 (by omega) (by omega)
  rw [List.append_assoc, ← List.map_append, List.append_assoc] at c3
  refine ⟨w, E ++ E2, pos2, MC3, MM3, c1, c2, c3, by simp; omega, a5.tr c5, a6.tr c6, ?_⟩
  rcases c7 with c7 | ⟨w1, c8, c9⟩
  · exact Or.inl c7
  · refine Or.inr ⟨w1, by omega, fun d => ?_, fun x hx => ?_⟩
    · rw [dep_ap, g2 d, Option.bind_some, c8 d]
    · rcases List.mem_append.mp hx with hx | hx
      · exact g3 x hx
      · exact c9 x hx
/-! LAW: an operand -/
theorem is_m {M : Mem} {v : Int32} (h : fMd_sign M = some v) (x : Int32) : fMd_is M x = if v = x then some (1, wI M 66 14 (M.1 66 14 + 1)) else some (0, M) := by rw [fMd_is, h, Option.bind_some]
theorem took_c {M : Mem} {v : Int32} (h : fLaw_sign M = some v) (x : Int32) : fLaw_took M x = if v = x then some (1, wI M 7 2 (M.1 7 2 + 1)) else some (0, M) := by rw [fLaw_took, h, Option.bind_some]
theorem dig_m {M : Mem} {v : Int32} (h : fMd_sign M = some v) : fMd_isDigit M = some (fLaw_isDigit v) := by
  rw [fMd_isDigit, h, Option.bind_some, Option.bind_some, fLaw_isDigit]
  by_cases a : v < 48
  · rw [if_pos a, if_pos a]
  · rw [if_neg a, if_neg a]
    by_cases b : 57 < v
    · rw [if_pos b, if_pos b]
    · rw [if_neg b, if_neg b]
theorem digit_v {v : Int32} (h : ¬ fLaw_isDigit v = 0) : ∃ k, k < 10 ∧ v = nI (48 + k) := by
  unfold fLaw_isDigit at h
  by_cases a : v < 48
  · rw [if_pos a] at h; exact absurd rfl h
  rw [if_neg a] at h
  by_cases b : 57 < v
  · rw [if_pos b] at h; exact absurd rfl h
  obtain ⟨c, hc, rfl⟩ := in_lit (x := v) (b := 58) 58 (by omega) rfl (by grind) (by grind)
  have c1 : ¬ c < 48 := fun z => a ((ltR (b := 48) 48 rfl (by omega) (by omega)).mpr z)
  exact ⟨c - 48, by omega, by rw [show 48 + (c - 48) = c by omega]⟩
theorem RdL.opn {D len o pos : Nat} {t : Nat → Int32} {Dl Cl : List Int32} {MC MM : Mem} (h : RdL D len t o Dl Cl pos MC MM) : RdL D len t (o + 1) Dl Cl pos MC (wI MM 66 15 (MM.1 66 15 + 1)) ∧ Kp PmL MM (wI MM 66 15 (MM.1 66 15 + 1)) := by
  obtain ⟨⟨a1, a2, a3, a4⟩, ⟨b1, b2, b3⟩, c1, c2, c3, c4, c5, c6, c7⟩ := h
  exact ⟨⟨⟨a1, a2, a3, a4⟩, ⟨b1, b2, b3⟩, c1, c2, c3, c4, by rw [c5, nI_1]; rfl, c6, c7⟩, Kp.w _ _ (by unfold PmL; omega)⟩
theorem RdL.cls {D len o pos : Nat} {t : Nat → Int32} {Dl Cl : List Int32} {MC MM : Mem} (h : RdL D len t (o + 1) Dl Cl pos MC MM) : RdL D len t o Dl Cl pos MC (wI MM 66 15 (MM.1 66 15 - 1)) ∧ Kp PmL MM (wI MM 66 15 (MM.1 66 15 - 1)) := by
  obtain ⟨⟨a1, a2, a3, a4⟩, ⟨b1, b2, b3⟩, c1, c2, c3, c4, c5, c6, c7⟩ := h
  refine ⟨⟨⟨a1, a2, a3, a4⟩, ⟨b1, b2, b3⟩, c1, c2, c3, c4, ?_, c6, c7⟩, Kp.w _ _ (by unfold PmL; omega)⟩
  have : nI (o + 1) - 1 = nI o := nI_sub (b := 1) (by omega)
  rw [c5, this]
  rfl
theorem num_l {D len o : Nat} {t : Nat → Int32} {g1 g2 g3 g4 g5 g6 : Mem → Option (Int32 × Mem)} {Dl Cl : List Int32} : ∀ e i f f' w pos MC MM, i + e = 4 → w < 10 ^ i → e < f → e < f' → RdL D len t o Dl Cl pos MC MM → ∃ w' pos' MC' MM', fLaw_readNumber_L4 f MC (nI w) (nI i) = some (MC', nI w') ∧ fMd_isO_L11 g1 g2 g3 g4 g5 g6 f' MM (nI w) (nI i) = some (MM', nI w') ∧ RdL D len t o Dl Cl pos' MC' MM' ∧ pos ≤ pos' ∧ w' ≤ 9999 ∧ Kp (PcL D) MC MC' ∧ Kp PmL MM MM' ∧ (0 < e → ¬ fLaw_isDigit (sgn t len pos) = 0 → pos < pos') := by
  intro e
  induction e with
  | zero =>
    intro i f f' w pos MC MM hi hw hf hf' hR
    obtain ⟨f, rfl⟩ : ∃ g, f = g + 1 := ⟨f - 1, by omega⟩
    obtain ⟨f', rfl⟩ : ∃ g, f' = g + 1 := ⟨f' - 1, by omega⟩
    obtain rfl : i = 4 := by omega
    have h4 : (4 : Int32) ≤ nI 4 := by decide
    refine ⟨w, pos, MC, MM, ?_, ?_, hR, Nat.le_refl _, by omega, Kp.rf _ _, Kp.rf _ _, fun h => absurd h (by omega)⟩
    · show fLaw_readNumber_L4_F (fLaw_readNumber_L4 f) MC (nI w) (nI 4) = _
      rw [fLaw_readNumber_L4_F, if_pos h4]
    · show fMd_isO_L11_F g1 g2 g3 g4 g5 g6 (fMd_isO_L11 g1 g2 g3 g4 g5 g6 f') MM (nI w) (nI 4) = _
      rw [fMd_isO_L11_F, if_pos h4]
  | succ e ih =>
    intro i f f' w pos MC MM hi hw hf hf' hR
    obtain ⟨f, rfl⟩ : ∃ g, f = g + 1 := ⟨f - 1, by omega⟩
    obtain ⟨f', rfl⟩ : ∃ g, f' = g + 1 := ⟨f' - 1, by omega⟩
    have h4 : ¬ (4 : Int32) ≤ nI i := fun z => absurd ((leL (b := 4) 4 rfl (by omega) (by omega)).mp z) (by omega)
    have pw : 10 ^ i ≤ 10 ^ 4 := Nat.pow_le_pow_right (by omega) (by omega)
    by_cases hd : fLaw_isDigit (sgn t len pos) = 0
    · refine ⟨w, pos, MC, MM, ?_, ?_, hR, Nat.le_refl _, by omega, Kp.rf _ _, Kp.rf _ _, fun _ h => absurd hd h⟩
      · show fLaw_readNumber_L4_F (fLaw_readNumber_L4 f) MC (nI w) (nI i) = _
        rw [fLaw_readNumber_L4_F, if_neg h4, hR.sc, Option.bind_some, if_pos hd]
      · show fMd_isO_L11_F g1 g2 g3 g4 g5 g6 (fMd_isO_L11 g1 g2 g3 g4 g5 g6 f') MM (nI w) (nI i) = _
        rw [fMd_isO_L11_F, if_neg h4, dig_m hR.sm, Option.bind_some, if_pos hd]
    · obtain ⟨k, hk, hv⟩ := digit_v hd
      have hp : pos < len := sgn_in hv (m1_ne (by omega))
      have hl := hR.1.1
      obtain ⟨R1, K1, K2⟩ := hR.adv hp
      have e1 : nI w * 10 + nI (48 + k) - 48 = nI (10 * w + k) := by
        have : (10 : Int32) = nI 10 := rfl
        rw [this, nI_mul, nI_add]
        have z : nI (w * 10 + (48 + k)) - 48 = nI (w * 10 + (48 + k) - 48) := nI_sub (b := 48) (by omega)
        rw [z]
        congr 1
        omega
      have e2 : 10 * nI w + nI (48 + k) - 48 = nI (10 * w + k) := by rw [Int32.mul_comm]; exact e1
      have pw2 : 10 ^ (i + 1) = 10 ^ i * 10 := Nat.pow_succ ..
      obtain ⟨w', pos', MC', MM', c1, c2, c3, c4, c5, c6, c7, -⟩ := ih (i + 1) f f' (10 * w + k) (pos + 1) _ _ (by omega) (by omega) (by omega) (by omega) R1
      have rd : rdI 120 71 MM (MM.1 66 14) = some (nI (48 + k)) := by
        rw [hR.2.1.2.2, rdI_n (by omega) (by omega), (hR.1.2.2.2 pos hp).2, ← hv, sgn, if_neg (by omega)]
      refine ⟨w', pos', MC', MM', ?_, ?_, c3, by omega, c5, K1.tr c6, K2.tr c7, fun _ _ => by omega⟩
      · show fLaw_readNumber_L4_F (fLaw_readNumber_L4 f) MC (nI w) (nI i) = _
        rw [fLaw_readNumber_L4_F, if_neg h4, hR.sc, Option.bind_some, if_neg hd, Option.bind_some, hv, e1, nI_1 i]
        exact c1
      · show fMd_isO_L11_F g1 g2 g3 g4 g5 g6 (fMd_isO_L11 g1 g2 g3 g4 g5 g6 f') MM (nI w) (nI i) = _
        rw [fMd_isO_L11_F, if_neg h4, dig_m hR.sm, Option.bind_some, if_neg hd, rd, Option.bind_some, e2, nI_1 i]
        exact c2
theorem name_v (v : Int32) : (fLaw_isName v = 0 ∧ fMd_nameOf v < 0) ∨ ∃ k, k < 6 ∧ fMd_nameOf v = nI k ∧ phi (nI k) = -v ∧ ¬ v = -1 ∧ ¬ fLaw_isName v = 0 := by
  by_cases h1 : v = 99
  · subst h1; exact Or.inr ⟨5, by decide⟩
  by_cases h2 : v = 104
  · subst h2; exact Or.inr ⟨2, by decide⟩
  by_cases h3 : v = 108
  · subst h3; exact Or.inr ⟨0, by decide⟩
  by_cases h4 : v = 111
  · subst h4; exact Or.inr ⟨4, by decide⟩
  by_cases h5 : v = 112
  · subst h5; exact Or.inr ⟨3, by decide⟩
  by_cases h6 : v = 115
  · subst h6; exact Or.inr ⟨1, by decide⟩
  left
  constructor
  · simp only [fLaw_isName, if_neg h1, if_neg h2, if_neg h3, if_neg h4, if_neg h5, if_neg h6, if_pos h1]
  · simp only [fMd_nameOf, if_neg h1, if_neg h2, if_neg h3, if_neg h4, if_neg h5, if_neg h6]
    decide
abbrev lJ (F : Nat) := (rec_fLaw_readJoined F).1
abbrev lO (F : Nat) := (rec_fLaw_readJoined F).2
abbrev mO (m : Nat) := (rec_fMd_isO m).1
abbrev mE (m : Nat) := (rec_fMd_isO m).2.1
abbrev mA (m : Nat) := (rec_fMd_isO m).2.2.1
abbrev mB (m : Nat) := (rec_fMd_isO m).2.2.2.1
abbrev mS (m : Nat) := (rec_fMd_isO m).2.2.2.2.1
abbrev mP (m : Nat) := (rec_fMd_isO m).2.2.2.2.2
theorem GE.num {w : Nat} (h : w ≤ 9999) : GE [nI (18 + w)] := ⟨fun d => by rw [dep_num w h]; rfl, fun c hc => by
  rw [List.mem_singleton.mp hc]
  exact ⟨(leL (b := 0) 0 rfl (by omega) (by omega)).mpr (by omega), (leR (b := 10017) 10017 rfl (by omega) (by omega)).mpr (by omega)⟩⟩
theorem GE.nam {k : Nat} (h : k < 6) : GE [nI k] := ⟨fun d => by rw [dep_nam k h]; rfl, fun c hc => by
  rw [List.mem_singleton.mp hc]
  exact ⟨(leL (b := 0) 0 rfl (by omega) (by omega)).mpr (by omega), (leR (b := 10017) 10017 rfl (by omega) (by omega)).mpr (by omega)⟩⟩
theorem GE.un {E : List Int32} (h : GE E) {k : Nat} (hk : k = 16 ∨ k = 17) : GE (E ++ [nI k]) := ⟨fun d => by rw [dep_ap, h.1 d, Option.bind_some, dep_un k hk, if_pos (by omega)]; rfl, fun c hc => by
  rcases List.mem_append.mp hc with hc | hc
  · exact h.2 c hc
  · rw [List.mem_singleton.mp hc]
    exact ⟨(leL (b := 0) 0 rfl (by omega) (by omega)).mpr (by omega), (leR (b := 10017) 10017 rfl (by omega) (by omega)).mpr (by omega)⟩⟩
/-- nothing read -/
theorem RdL.nil {D len o pos : Nat} {t : Nat → Int32} {Dl Cl : List Int32} {MC MM : Mem} (h : RdL D len t o Dl Cl pos MC MM) : RdL D len t o (Dl ++ ([] : List Int32).map phi) (Cl ++ []) pos MC MM := by rw [List.map_nil, List.append_nil, List.append_nil]; exact h
theorem RdL.snoc {D len o pos : Nat} {t : Nat → Int32} {Dl Cl E : List Int32} {x c : Int32} {MC MM : Mem} (h : RdL D len t o ((Dl ++ E.map phi) ++ [x]) ((Cl ++ E) ++ [c]) pos MC MM) (hx : phi c = x) : RdL D len t o (Dl ++ (E ++ [c]).map phi) (Cl ++ (E ++ [c])) pos MC MM := by
  have : Dl ++ (E ++ [c]).map phi = (Dl ++ E.map phi) ++ [x] := by rw [List.map_append, List.append_assoc, List.map_cons, List.map_nil, hx]
  rw [this, ← List.append_assoc]
  exact h
theorem J214_e (g1 g2 g3 g4 g5 g6 : Mem → Option (Int32 × Mem)) (M : Mem) {x : Int32} (h : x = 0 ∨ x = 1) : fMd_isO_J214 g1 g2 g3 g4 g5 g6 M x = some (x, wI M 66 15 (M.1 66 15 - 1)) := by
  rw [fMd_isO_J214, chZ, if_pos h, Option.bind_some]
theorem op_l {D len o F m : Nat} {t : Nat → Int32} (ho : o ≤ 6) (hO : o < 6 → Xs D len t (o + 1) (fun M => lO F M (nI (o + 1))) (fun M => mO m M)) (hE : o < 6 → Xs D len t (o + 1) (fun M => lJ F M 0 (nI (o + 1))) (fun M => mE m M)) : Xs D len t o (fun M => lO (F + 1) M (nI o)) (fun M => mO (m + 1) M) := by
  intro Dl Cl pos MC MM hR hD hC
  have hl := hR.1.1
  have hp := hR.2.1.1
  show ∃ v E pos' MC' MM', fLaw_readOperand_F (lJ F) (lO F) MC (nI o) = some (v, MC') ∧ fMd_isO_F (mO m) (mE m) (mA m) (mB m) (mS m) (mP m) MM = some (v, MM') ∧ _
  by_cases hd : ¬ fLaw_isDigit (sgn t len pos) = 0
  · obtain ⟨w, pos1, MC1, MM1, c1, c2, c3, c4, c5, c6, c7, c8⟩ := num_l (g1 := mO m) (g2 := mE m) (g3 := mA m) (g4 := mB m) (g5 := mS m) (g6 := mP m) 4 0 FU FU 0 pos MC MM (by omega) (by omega) (fu_lt (by omega)) (fu_lt (by omega)) hR
    have c9 := c8 (by omega) hd
    have p1 := c3.2.1.1
    obtain ⟨MC2, MM2, b1, b2, b3, b4, b5⟩ := c3.emit (by omega) (by omega) (nI w) (nI (18 + w))
    have n0 : (0 : Int32) = nI 0 := rfl
    have n18 : (18 : Int32) = nI 18 := rfl
    refine ⟨1, [nI (18 + w)], pos1, MC2, MM2, ?_, ?_, ?_, by simp; omega, c6.tr b4, c7.tr b5, Or.inr ⟨rfl, c9, GE.num c5⟩⟩
    · rw [fLaw_readOperand_F, hR.sc, Option.bind_some, if_neg hd, fLaw_readNumber, n0, c1, Option.bind_some, b1, Option.bind_some, Option.bind_some]
    · rw [fMd_isO_F, dig_m hR.sm, Option.bind_some, if_neg hd, n0, c2, Option.bind_some, n18, nI_add, b2, Option.bind_some]
    · rw [List.map_cons, List.map_nil, phi_num w c5]; exact b3
  replace hd := Decidable.not_not.mp hd
  rcases (name_v (sgn t len pos)).symm with ⟨k, k6, n1, n2, n3, n4⟩ | ⟨n1, n2⟩
  · have hp' : pos < len := sgn_in rfl n3
    obtain ⟨R1, K1, K2⟩ := hR.adv hp'
    obtain ⟨MC2, MM2, b1, b2, b3, b4, b5⟩ := R1.emit (by omega) (by omega) (-(sgn t len pos)) (nI k)
    have nk : ¬ nI k < 0 := nI_pos (by omega)
    refine ⟨1, [nI k], pos + 1, MC2, MM2, ?_, ?_, ?_, by simp; omega, K1.tr b4, K2.tr b5, Or.inr ⟨rfl, by omega, GE.nam k6⟩⟩
    · rw [fLaw_readOperand_F, hR.sc, Option.bind_some, if_pos hd, if_neg n4, b1, Option.bind_some]
    · rw [fMd_isO_F, dig_m hR.sm, Option.bind_some, if_pos hd, hR.sm, Option.bind_some, n1, if_neg nk, b2, Option.bind_some]
    · rw [List.map_cons, List.map_nil, n2]; exact b3
  have eM : fMd_isO_F (mO m) (mE m) (mA m) (mB m) (mS m) (mP m) MM = if ¬ (nI o) = 6 then Option.bind (fMd_is (wI MM 66 15 (MM.1 66 15 + 1)) 33) fun q9 => if q9.1 = 0 then Option.bind (fMd_is q9.2 45) fun q12 => if q12.1 = 0 then Option.bind (fMd_is q12.2 40) fun q15 => if q15.1 = 0 then fMd_isO_J212 (mO m) (mE m) (mA m) (mB m) (mS m) (mP m) q15.2 else Option.bind (mE m q15.2) fun q19 => if q19.1 = 0 then fMd_isO_J212 (mO m) (mE m) (mA m) (mB m) (mS m) (mP m) q19.2 else Option.bind (fMd_is q19.2 41) fun q22 => if q22.1 = 0 then fMd_isO_J212 (mO m) (mE m) (mA m) (mB m) (mS m) (mP m) q22.2 else fMd_isO_J213 (mO m) (mE m) (mA m) (mB m) (mS m) (mP m) q22.2 1 else Option.bind (mO m q12.2) fun q25 => if q25.1 = 0 then fMd_isO_J178 (mO m) (mE m) (mA m) (mB m) (mS m) (mP m) q25.2 else Option.bind (fMd_codes q25.2 17) fun q28 => if q28.1 = 0 then fMd_isO_J178 (mO m) (mE m) (mA m) (mB m) (mS m) (mP m) q28.2 else fMd_isO_J179 (mO m) (mE m) (mA m) (mB m) (mS m) (mP m) q28.2 1 else Option.bind (mO m q9.2) fun q31 => if q31.1 = 0 then fMd_isO_J144 (mO m) (mE m) (mA m) (mB m) (mS m) (mP m) q31.2 else Option.bind (fMd_codes q31.2 16) fun q34 => if q34.1 = 0 then fMd_isO_J144 (mO m) (mE m) (mA m) (mB m) (mS m) (mP m) q34.2 else fMd_isO_J145 (mO m) (mE m) (mA m) (mB m) (mS m) (mP m) q34.2 1 else some (0, MM) := by
    rw [fMd_isO_F, dig_m hR.sm, Option.bind_some, if_pos hd, hR.sm, Option.bind_some, if_pos n2, hR.2.2.2.2.2.2.1]
  have eC : fLaw_readOperand_F (lJ F) (lO F) MC (nI o) = if sgn t len pos = 40 then fLaw_readOperand_J61 (lJ F) (lO F) MC (nI o) (sgn t len pos) else if sgn t len pos = 33 then fLaw_readOperand_J61 (lJ F) (lO F) MC (nI o) (sgn t len pos) else if ¬ sgn t len pos = 45 then some (0, MC) else fLaw_readOperand_J61 (lJ F) (lO F) MC (nI o) (sgn t len pos) := by
    rw [fLaw_readOperand_F, hR.sc, Option.bind_some, if_pos hd, if_pos n1]
  rw [eC, eM]
  by_cases o6 : o = 6
  · subst o6
    have j : ∀ v, fLaw_readOperand_J61 (lJ F) (lO F) MC (nI 6) v = some (0, MC) := fun v => by
      have : ¬ nI 6 < 6 := by decide
      rw [fLaw_readOperand_J61, if_neg this]
    have z6 : ¬ ¬ nI 6 = 6 := fun z => z rfl
    refine ⟨0, [], pos, MC, MM, ?_, by rw [if_neg z6], hR.nil, by simp, Kp.rf _ _, Kp.rf _ _, Or.inl rfl⟩
    rw [j]
    by_cases a : sgn t len pos = 40
    · rw [if_pos a]
    · rw [if_neg a]
      by_cases b : sgn t len pos = 33
      · rw [if_pos b]
      · rw [if_neg b]
        by_cases c : sgn t len pos = 45
        · rw [if_neg (fun z => z c)]
        · rw [if_pos c]
  have o5 : o < 6 := by omega
  have o7 : nI o < 6 := (ltR (b := 6) 6 rfl (by omega) (by omega)).mpr o5
  have o8 : ¬ nI o = 6 := fun z => o6 ((eqR (b := 6) 6 rfl (by omega) (by omega)).mp z)
  obtain ⟨Ro, Ko⟩ := hR.opn
  generalize hMo : wI MM 66 15 (MM.1 66 15 + 1) = Mo at *
  rw [if_pos o8]
  have sv := Ro.sm
  -- a turned operand: ! and -
  have turn : ∀ (x c : Int32) (k : Nat), (k = 16 ∨ k = 17) → c = nI k → phi (nI k) = x → pos < len → ∃ v E pos' MC' MM', (Option.bind (lO F (wI MC 7 2 (MC.1 7 2 + 1)) (nI o + 1)) fun q10 => if ¬ q10.1 = 0 then Option.bind (fLaw_step q10.2 x) fun q14 => some ((1 : Int32), q14) else some (0, q10.2)) = some (v, MC') ∧ (Option.bind (mO m (wI Mo 66 14 (Mo.1 66 14 + 1))) fun q31 => if q31.1 = 0 then some ((0 : Int32), wI q31.2 66 15 (q31.2.1 66 15 - 1)) else Option.bind (fMd_codes q31.2 c) fun q34 => if q34.1 = 0 then some (0, wI q34.2 66 15 (q34.2.1 66 15 - 1)) else some (1, wI q34.2 66 15 (q34.2.1 66 15 - 1))) = some (v, MM') ∧ RdL D len t o (Dl ++ E.map phi) (Cl ++ E) pos' MC' MM' ∧ E.length + pos ≤ pos' ∧ Kp (PcL D) MC MC' ∧ Kp PmL MM MM' ∧ (v = 0 ∨ v = 1 ∧ pos < pos' ∧ GE E) := by
    intro x c k hk hc hx hp'
    subst hc
    obtain ⟨R1, K1, K2⟩ := Ro.adv hp'
    obtain ⟨v, E, pos1, MC1, MM1, a1, a2, a3, a4, a5, a6, a7⟩ := hO o5 Dl Cl (pos + 1) _ _ R1 (by omega) (by omega)
    dsimp only at a1 a2
    rw [nI_1, a1, a2, Option.bind_some, Option.bind_some]
    dsimp only
    by_cases v0 : v = 0
    · subst v0
      obtain ⟨Rc, Kc⟩ := a3.cls
      rw [if_neg (fun z => z rfl), if_pos rfl]
      exact ⟨0, E, pos1, MC1, _, rfl, rfl, Rc, by omega, K1.tr a5, (Ko.tr (K2.tr a6)).tr Kc, Or.inl rfl⟩
    · obtain ⟨-, g1, g2⟩ := a7.resolve_left v0
      have p2 := a3.2.1.1
      have lE : (Dl ++ E.map phi).length = Dl.length + E.length := by simp
      have lE' : (Cl ++ E).length = Cl.length + E.length := by simp
      obtain ⟨MC2, MM2, b1, b2, b3, b4, b5⟩ := a3.emit (by omega) (by omega) x (nI k)
      obtain ⟨Rc, Kc⟩ := (b3.snoc hx).cls
      have z1 : ¬ (1 : Int32) = 0 := by decide
      rw [if_pos v0, if_neg v0, b1, b2, Option.bind_some, Option.bind_some]
      dsimp only
      rw [if_neg z1]
      exact ⟨1, E ++ [nI k], pos1, MC2, _, rfl, rfl, Rc, by simp; omega, K1.tr (a5.tr b4), (Ko.tr (K2.tr (a6.tr b5))).tr Kc, Or.inr ⟨rfl, by omega, g2.un hk⟩⟩
  have J0 : ∀ M, fMd_isO_J212 (mO m) (mE m) (mA m) (mB m) (mS m) (mP m) M = some (0, wI M 66 15 (M.1 66 15 - 1)) := fun M => J214_e (mO m) (mE m) (mA m) (mB m) (mS m) (mP m) M (Or.inl rfl)
  have J1 : ∀ M, fMd_isO_J213 (mO m) (mE m) (mA m) (mB m) (mS m) (mP m) M 1 = some (1, wI M 66 15 (M.1 66 15 - 1)) := fun M => J214_e (mO m) (mE m) (mA m) (mB m) (mS m) (mP m) M (Or.inr rfl)
  have J2 : ∀ M, fMd_isO_J178 (mO m) (mE m) (mA m) (mB m) (mS m) (mP m) M = some (0, wI M 66 15 (M.1 66 15 - 1)) := fun M => J214_e (mO m) (mE m) (mA m) (mB m) (mS m) (mP m) M (Or.inl rfl)
  have J3 : ∀ M, fMd_isO_J179 (mO m) (mE m) (mA m) (mB m) (mS m) (mP m) M 1 = some (1, wI M 66 15 (M.1 66 15 - 1)) := fun M => J214_e (mO m) (mE m) (mA m) (mB m) (mS m) (mP m) M (Or.inr rfl)
  have J4 : ∀ M, fMd_isO_J144 (mO m) (mE m) (mA m) (mB m) (mS m) (mP m) M = some (0, wI M 66 15 (M.1 66 15 - 1)) := fun M => J214_e (mO m) (mE m) (mA m) (mB m) (mS m) (mP m) M (Or.inl rfl)
  have J5 : ∀ M, fMd_isO_J145 (mO m) (mE m) (mA m) (mB m) (mS m) (mP m) M 1 = some (1, wI M 66 15 (M.1 66 15 - 1)) := fun M => J214_e (mO m) (mE m) (mA m) (mB m) (mS m) (mP m) M (Or.inr rfl)
  simp only [J0, J1, J2, J3, J4, J5]
  have z1 : ¬ (1 : Int32) = 0 := by decide
  generalize hv : sgn t len pos = v at *
  by_cases v33 : v = 33
  · subst v33
    have n40 : ¬ (33 : Int32) = 40 := by decide
    have n45 : ¬ (33 : Int32) = 45 := by decide
    rw [if_neg n40, if_pos rfl, is_m sv, if_pos rfl, Option.bind_some, fLaw_readOperand_J61, if_pos o7, if_pos n40]
    dsimp only
    rw [if_neg z1]
    simp only [if_pos n45]
    exact turn (-33) 16 16 (Or.inl rfl) rfl (by decide) (sgn_in hv (by decide))
  by_cases v45 : v = 45
  · subst v45
    have n40 : ¬ (45 : Int32) = 40 := by decide
    have n45 : ¬ ¬ (45 : Int32) = 45 := fun z => z rfl
    rw [if_neg n40, if_neg v33, if_neg n45, is_m sv, if_neg v33, Option.bind_some, fLaw_readOperand_J61, if_pos o7, if_pos n40]
    dsimp only
    rw [if_pos rfl, is_m sv, if_pos rfl, Option.bind_some]
    dsimp only
    rw [if_neg z1]
    simp only [if_neg n45]
    exact turn (-1) 17 17 (Or.inr rfl) rfl (by decide) (sgn_in hv (by decide))
  by_cases v40 : v = 40
  · subst v40
    have hp' : pos < len := sgn_in hv (by decide)
    obtain ⟨R1, K1, K2⟩ := Ro.adv hp'
    obtain ⟨v, E, pos1, MC1, MM1, a1, a2, a3, a4, a5, a6, a7⟩ := hE o5 Dl Cl (pos + 1) _ _ R1 (by omega) (by omega)
    dsimp only at a1 a2
    rw [if_pos rfl, is_m sv, if_neg v33, Option.bind_some, fLaw_readOperand_J61, if_pos o7, if_neg (fun z => z rfl)]
    dsimp only
    rw [if_pos rfl, is_m sv, if_neg v45, Option.bind_some]
    dsimp only
    rw [if_pos rfl, is_m sv, if_pos rfl, Option.bind_some]
    dsimp only
    rw [if_neg z1, nI_1, a1, a2, Option.bind_some, Option.bind_some]
    dsimp only
    by_cases v0 : v = 0
    · subst v0
      obtain ⟨Rc, Kc⟩ := a3.cls
      rw [if_pos rfl, if_pos rfl]
      exact ⟨0, E, pos1, MC1, _, rfl, rfl, Rc, by omega, K1.tr a5, (Ko.tr (K2.tr a6)).tr Kc, Or.inl rfl⟩
    obtain ⟨-, g1, g2⟩ := a7.resolve_left v0
    rw [if_neg v0, if_neg v0, took_c a3.sc, is_m a3.sm]
    by_cases w : sgn t len pos1 = 41
    · obtain ⟨R2, K3, K4⟩ := a3.adv (sgn_in w (by decide))
      obtain ⟨Rc, Kc⟩ := R2.cls
      rw [if_pos w, if_pos w, Option.bind_some, Option.bind_some]
      dsimp only
      rw [if_neg z1, if_neg z1]
      exact ⟨1, E, pos1 + 1, _, _, rfl, rfl, Rc, by omega, K1.tr (a5.tr K3), (Ko.tr (K2.tr (a6.tr K4))).tr Kc, Or.inr ⟨rfl, by omega, g2⟩⟩
    · obtain ⟨Rc, Kc⟩ := a3.cls
      rw [if_neg w, if_neg w, Option.bind_some, Option.bind_some]
      dsimp only
      rw [if_pos rfl, if_pos rfl]
      exact ⟨0, E, pos1, _, _, rfl, rfl, Rc, by omega, K1.tr a5, (Ko.tr (K2.tr a6)).tr Kc, Or.inl rfl⟩
  · obtain ⟨Rc, Kc⟩ := Ro.cls
    rw [if_neg v40, if_neg v33, if_pos v45, is_m sv, if_neg v33, Option.bind_some]
    dsimp only
    rw [if_pos rfl, is_m sv, if_neg v45, Option.bind_some]
    dsimp only
    rw [if_pos rfl, is_m sv, if_neg v40, Option.bind_some]
    dsimp only
    rw [if_pos rfl]
    exact ⟨0, [], pos, MC, _, rfl, rfl, Rc.nil, by simp, Kp.rf _ _, Ko.tr Kc, Or.inl rfl⟩
/-! LAW: the levels -/
def lm (l : Nat) : Nat := if l = 2 then 1 else 120
theorem lev_c {F o l : Nat} (hl : l < 5) (M : Mem) : lJ (F + 1) M (nI l) (nI o) = Option.bind (lJ F M (nI (l + 1)) (nI o)) fun q => if ¬ q.1 = 0 then fLaw_readJoined_L39 (lJ F) (lO F) FU q.2 (nI l) (nI o) (nI (lm l)) (nI 0) else some (0, q.2) := by
  show fLaw_readJoined_F (lJ F) (lO F) M (nI l) (nI o) = _
  have h5 : nI l < 5 := (ltR (b := 5) 5 rfl (by omega) (by omega)).mpr hl
  rw [fLaw_readJoined_F, if_pos h5, nI_1]
  by_cases z : l = 2
  · have z' : ¬ ¬ nI l = 2 := fun y => y (by rw [z]; rfl)
    simp only [if_neg z', lm, if_pos z]
    rfl
  · have z' : ¬ nI l = 2 := fun y => z ((eqR (b := 2) 2 rfl (by omega) (by omega)).mp y)
    simp only [if_pos z', lm, if_neg z]
    rfl
theorem tail_c {F o l : Nat} (hl : l < 5) (f : Nat) (M : Mem) (v : Int32) (j : Nat) (hj : j < lm l) (hv : fLaw_sign M = some v) : fLaw_readJoined_L39 (lJ F) (lO F) (f + 1) M (nI l) (nI o) (nI (lm l)) (nI j) = match opc l v with | none => some (1, M) | some _ => Option.bind (lJ F (wI M 7 2 (M.1 7 2 + 1)) (nI (l + 1)) (nI o)) fun q => if ¬ q.1 = 0 then Option.bind (fLaw_step q.2 (-v)) fun q' => fLaw_readJoined_L39 (lJ F) (lO F) f q' (nI l) (nI o) (nI (lm l)) (nI (j + 1)) else some (0, q.2) := by
  show fLaw_readJoined_L39_F (lJ F) (lO F) (fLaw_readJoined_L39 (lJ F) (lO F) f) M (nI l) (nI o) (nI (lm l)) (nI j) = _
  have l120 : lm l ≤ 120 := by unfold lm; split <;> omega
  have h0 : ¬ nI (lm l) ≤ nI j := fun z => absurd ((nI_leI (by omega) (by omega)).mp z) (by omega)
  rw [fLaw_readJoined_L39_F, if_neg h0, hv, Option.bind_some]
  cases h : opc l v with
  | none => rw [if_pos ((opc_lev hl v).mp h)]
  | some c =>
    have : ¬ ¬ fLaw_levelOf v = nI l := fun z => by
      rw [(opc_lev hl v).mpr z] at h
      cases h
    rw [if_neg this, Option.bind_some, nI_1, nI_1]
theorem end_c {F o l : Nat} (f : Nat) (M : Mem) (j : Nat) (h : lm l ≤ j) (hj : j < 120) : fLaw_readJoined_L39 (lJ F) (lO F) (f + 1) M (nI l) (nI o) (nI (lm l)) (nI j) = some (1, M) := by
  show fLaw_readJoined_L39_F (lJ F) (lO F) (fLaw_readJoined_L39 (lJ F) (lO F) f) M (nI l) (nI o) (nI (lm l)) (nI j) = _
  rw [fLaw_readJoined_L39_F, if_pos ((nI_leI (by omega) (by omega)).mpr h)]
theorem lv {D len F o l : Nat} {t : Nat → Int32} {gm : Mem → Option (Int32 × Mem)} (hl : l < 5) (hlen : len ≤ 120) (hs : Xs D len t o (fun M => lJ F M (nI (l + 1)) (nI o)) gm) (LM : Nat → Mem → Nat → Option (Int32 × Mem))
    (hM : ∀ f M v j, j < lm l → fMd_sign M = some v → LM (f + 1) M j = match opc l v with | none => some (1, M) | some c => Option.bind (gm (wI M 66 14 (M.1 66 14 + 1))) fun q => if ¬ q.1 = 0 then Option.bind (fMd_codes q.2 (nI c)) fun q' => LM f q'.2 (j + 1) else some (0, q.2))
    (h0 : ∀ f M j, lm l ≤ j → j < 120 → LM (f + 1) M j = some (1, M)) : Xs D len t o (fun M => lJ (F + 1) M (nI l) (nI o)) (fun M => Option.bind (gm M) fun q => if ¬ q.1 = 0 then LM FU q.2 0 else some (0, q.2)) := by
  have T : TailL D len t o (fun f M j => fLaw_readJoined_L39 (lJ F) (lO F) f M (nI l) (nI o) (nI (lm l)) (nI j)) LM := tail_l (lim := lm l) hs (fun f M v j hj hv => tail_c hl f M v j hj hv) hM (fun f M j h hj => ⟨end_c f M j h hj, h0 f M j h hj⟩)
  have X := lev_l hs T hlen
  have e : (fun M => lJ (F + 1) M (nI l) (nI o)) = fun M => Option.bind (lJ F M (nI (l + 1)) (nI o)) fun q => if ¬ q.1 = 0 then fLaw_readJoined_L39 (lJ F) (lO F) FU q.2 (nI l) (nI o) (nI (lm l)) (nI 0) else some (0, q.2) := funext fun M => lev_c hl M
  rw [e]
  exact X
theorem codes_1 (M : Mem) (c : Int32) : (Option.bind (fMd_codes M c) fun q => if q.1 = 0 then some ((0 : Int32), q.2) else some (1, q.2)) = Option.bind (fMd_codes M c) fun q => some (1, q.2) := by
  have z1 : ¬ (1 : Int32) = 0 := by decide
  unfold fMd_codes
  cases stI 200 79 (wI M 66 16 (M.1 66 16 + 1)) (M.1 66 16) c with
  | none => rfl
  | some M1 =>
    rw [Option.bind_some, Option.bind_some, Option.bind_some]
    dsimp only
    rw [if_neg z1]
theorem lvP {D len F o m : Nat} {t : Nat → Int32} (hlen : len ≤ 120) (hs : Xs D len t o (fun M => lJ F M (nI 5) (nI o)) (fun M => mO m M)) : Xs D len t o (fun M => lJ (F + 1) M (nI 4) (nI o)) (fun M => mP (m + 1) M) :=
  lv (l := 4) (by omega) hlen hs (fun f M _ => fMd_isP_L9 (mO m) (mE m) (mA m) (mB m) (mS m) (mP m) f M) (fun f M v j _ hv => by
    show fMd_isP_L9_F (mO m) (mE m) (mA m) (mB m) (mS m) (mP m) (fMd_isP_L9 (mO m) (mE m) (mA m) (mB m) (mS m) (mP m) f) M = _
    have p : ∀ c : Nat, c < 16 → (0 : Int32) ≤ nI c := fun c hc => (leL (b := 0) 0 rfl (by omega) (by omega)).mpr (by omega)
    rw [fMd_isP_L9_F, hv, Option.bind_some]
    by_cases a : v = 42
    · have e : opc 4 v = some 13 := if_pos a
      rw [if_neg (fun z => z a), e, show (13 : Int32) = nI 13 from rfl, fMd_isP_J52_9, if_pos (p 13 (by omega))]
    rw [if_pos a, Option.bind_some]
    by_cases b : v = 47
    · have e : opc 4 v = some 14 := (if_neg a).trans (if_pos b)
      rw [if_neg (fun z => z b), e, show (14 : Int32) = nI 14 from rfl, fMd_isP_J52_9, if_pos (p 14 (by omega))]
    rw [if_pos b, Option.bind_some]
    by_cases c : v = 37
    · have e : opc 4 v = some 15 := (if_neg a).trans ((if_neg b).trans (if_pos c))
      rw [if_neg (fun z => z c), e, show (15 : Int32) = nI 15 from rfl, fMd_isP_J52_9, if_pos (p 15 (by omega))]
    have e : opc 4 v = none := (if_neg a).trans ((if_neg b).trans (if_neg c))
    have n : ¬ (0 : Int32) ≤ -1 := by decide
    rw [if_pos c, e, fMd_isP_J52_9, if_neg n]) (fun f M j h hj => absurd h (by have : lm 4 = 120 := rfl; omega))
theorem lvS {D len F o m : Nat} {t : Nat → Int32} (hlen : len ≤ 120) (hs : Xs D len t o (fun M => lJ F M (nI 4) (nI o)) (fun M => mP m M)) : Xs D len t o (fun M => lJ (F + 1) M (nI 3) (nI o)) (fun M => mS (m + 1) M) :=
  lv (l := 3) (by omega) hlen hs (fun f M _ => fMd_isS_L9 (mO m) (mE m) (mA m) (mB m) (mS m) (mP m) f M) (fun f M v j _ hv => by
    show fMd_isS_L9_F (mO m) (mE m) (mA m) (mB m) (mS m) (mP m) (fMd_isS_L9 (mO m) (mE m) (mA m) (mB m) (mS m) (mP m) f) M = _
    have p : ∀ c : Nat, c < 16 → (0 : Int32) ≤ nI c := fun c hc => (leL (b := 0) 0 rfl (by omega) (by omega)).mpr (by omega)
    rw [fMd_isS_L9_F, hv, Option.bind_some]
    by_cases a : v = 43
    · have e : opc 3 v = some 11 := if_pos a
      rw [if_neg (fun z => z a), e, show (11 : Int32) = nI 11 from rfl, fMd_isS_J38_9, if_pos (p 11 (by omega))]
    rw [if_pos a, Option.bind_some]
    by_cases b : v = 45
    · have e : opc 3 v = some 12 := (if_neg a).trans (if_pos b)
      rw [if_neg (fun z => z b), e, show (12 : Int32) = nI 12 from rfl, fMd_isS_J38_9, if_pos (p 12 (by omega))]
    have e : opc 3 v = none := (if_neg a).trans (if_neg b)
    have n : ¬ (0 : Int32) ≤ -1 := by decide
    rw [if_pos b, e, fMd_isS_J38_9, if_neg n]) (fun f M j h hj => absurd h (by have : lm 3 = 120 := rfl; omega))
theorem lvB {D len F o m : Nat} {t : Nat → Int32} (hlen : len ≤ 120) (hs : Xs D len t o (fun M => lJ F M (nI 3) (nI o)) (fun M => mS m M)) : Xs D len t o (fun M => lJ (F + 1) M (nI 2) (nI o)) (fun M => mB (m + 1) M) :=
  lv (l := 2) (by omega) hlen hs (fun _ M j => if j = 0 then Option.bind (fMd_sign M) fun v4 => if ¬ v4 = 60 then Option.bind (fMd_sign M) fun v7 => if ¬ v7 = 61 then Option.bind (fMd_sign M) fun v10 => if ¬ v10 = 62 then fMd_isB_J52 (mO m) (mE m) (mA m) (mB m) (mS m) (mP m) M (-1) else fMd_isB_J52 (mO m) (mE m) (mA m) (mB m) (mS m) (mP m) M 10 else fMd_isB_J52 (mO m) (mE m) (mA m) (mB m) (mS m) (mP m) M 9 else fMd_isB_J52 (mO m) (mE m) (mA m) (mB m) (mS m) (mP m) M 8 else some (1, M)) (fun f M v j hj hv => by
    have j0 : j = 0 := by have : lm 2 = 1 := rfl; omega
    subst j0
    have p : ∀ c : Nat, c < 16 → (0 : Int32) ≤ nI c := fun c hc => (leL (b := 0) 0 rfl (by omega) (by omega)).mpr (by omega)
    have B : ∀ c : Nat, c < 16 → fMd_isB_J52 (mO m) (mE m) (mA m) (mB m) (mS m) (mP m) M (nI c) = Option.bind (mS m (wI M 66 14 (M.1 66 14 + 1))) fun q => if ¬ q.1 = 0 then Option.bind (fMd_codes q.2 (nI c)) fun q' => some (1, q'.2) else some (0, q.2) := fun c hc => by
      rw [fMd_isB_J52, if_pos (p c hc)]
      simp only [codes_1, ite_not]
    have one : ∀ M' : Mem, (if 0 + 1 = 0 then Option.bind (fMd_sign M') fun v4 => if ¬ v4 = 60 then Option.bind (fMd_sign M') fun v7 => if ¬ v7 = 61 then Option.bind (fMd_sign M') fun v10 => if ¬ v10 = 62 then fMd_isB_J52 (mO m) (mE m) (mA m) (mB m) (mS m) (mP m) M' (-1) else fMd_isB_J52 (mO m) (mE m) (mA m) (mB m) (mS m) (mP m) M' 10 else fMd_isB_J52 (mO m) (mE m) (mA m) (mB m) (mS m) (mP m) M' 9 else fMd_isB_J52 (mO m) (mE m) (mA m) (mB m) (mS m) (mP m) M' 8 else some ((1 : Int32), M')) = some (1, M') := fun M' => if_neg (by omega)
    simp only [one]
    rw [if_pos True.intro, hv, Option.bind_some]
    by_cases a : v = 60
    · have e : opc 2 v = some 8 := if_pos a
      rw [if_neg (fun z => z a), e, show (8 : Int32) = nI 8 from rfl, B 8 (by omega)]
    rw [if_pos a, Option.bind_some]
    by_cases b : v = 61
    · have e : opc 2 v = some 9 := (if_neg a).trans (if_pos b)
      rw [if_neg (fun z => z b), e, show (9 : Int32) = nI 9 from rfl, B 9 (by omega)]
    rw [if_pos b, Option.bind_some]
    by_cases c : v = 62
    · have e : opc 2 v = some 10 := (if_neg a).trans ((if_neg b).trans (if_pos c))
      rw [if_neg (fun z => z c), e, show (10 : Int32) = nI 10 from rfl, B 10 (by omega)]
    have e : opc 2 v = none := (if_neg a).trans ((if_neg b).trans (if_neg c))
    have n : ¬ (0 : Int32) ≤ -1 := by decide
    rw [if_pos c, e, fMd_isB_J52, if_neg n]) (fun f M j h hj => if_neg (by have : lm 2 = 1 := rfl; omega))
theorem lvA {D len F o m : Nat} {t : Nat → Int32} (hlen : len ≤ 120) (hs : Xs D len t o (fun M => lJ F M (nI 2) (nI o)) (fun M => mB m M)) : Xs D len t o (fun M => lJ (F + 1) M (nI 1) (nI o)) (fun M => mA (m + 1) M) :=
  lv (l := 1) (by omega) hlen hs (fun f M _ => fMd_isA_L9 (mO m) (mE m) (mA m) (mB m) (mS m) (mP m) f M) (fun f M v j _ hv => by
    show fMd_isA_L9_F (mO m) (mE m) (mA m) (mB m) (mS m) (mP m) (fMd_isA_L9 (mO m) (mE m) (mA m) (mB m) (mS m) (mP m) f) M = _
    have z1 : ¬ (1 : Int32) = 0 := by decide
    rw [fMd_isA_L9_F, is_m hv]
    by_cases a : v = 38
    · have e : opc 1 v = some 7 := if_pos a
      rw [if_pos a, e, Option.bind_some]
      dsimp only
      rw [if_neg z1]
      rfl
    · have e : opc 1 v = none := if_neg a
      rw [if_neg a, e, Option.bind_some]
      dsimp only
      rw [if_pos rfl]) (fun f M j h hj => absurd h (by have : lm 1 = 120 := rfl; omega))
theorem lvE {D len F o m : Nat} {t : Nat → Int32} (hlen : len ≤ 120) (hs : Xs D len t o (fun M => lJ F M (nI 1) (nI o)) (fun M => mA m M)) : Xs D len t o (fun M => lJ (F + 1) M (nI 0) (nI o)) (fun M => mE (m + 1) M) :=
  lv (l := 0) (by omega) hlen hs (fun f M _ => fMd_isE_L9 (mO m) (mE m) (mA m) (mB m) (mS m) (mP m) f M) (fun f M v j _ hv => by
    show fMd_isE_L9_F (mO m) (mE m) (mA m) (mB m) (mS m) (mP m) (fMd_isE_L9 (mO m) (mE m) (mA m) (mB m) (mS m) (mP m) f) M = _
    have z1 : ¬ (1 : Int32) = 0 := by decide
    rw [fMd_isE_L9_F, is_m hv]
    by_cases a : v = 124
    · have e : opc 0 v = some 6 := if_pos a
      rw [if_pos a, e, Option.bind_some]
      dsimp only
      rw [if_neg z1]
      rfl
    · have e : opc 0 v = none := if_neg a
      rw [if_neg a, e, Option.bind_some]
      dsimp only
      rw [if_pos rfl]) (fun f M j h hj => absurd h (by have : lm 0 = 120 := rfl; omega))
/-- all levels above an operand -/
theorem lev_all {D len F o m : Nat} {t : Nat → Int32} (hlen : len ≤ 120) (hs : Xs D len t o (fun M => lO F M (nI o)) (fun M => mO m M)) : Xs D len t o (fun M => lJ (F + 6) M (nI 0) (nI o)) (fun M => mE (m + 5) M) := by
  have e : (fun M => lJ (F + 1) M (nI 5) (nI o)) = fun M => lO F M (nI o) := funext fun M => by
    show fLaw_readJoined_F (lJ F) (lO F) M (nI 5) (nI o) = _
    have h5 : ¬ nI 5 < 5 := by decide
    rw [fLaw_readJoined_F, if_neg h5]
    exact bind_id
  have h5 : Xs D len t o (fun M => lJ (F + 1) M (nI 5) (nI o)) (fun M => mO m M) := by rw [e]; exact hs
  exact lvE hlen (lvA hlen (lvB hlen (lvS hlen (lvP hlen h5))))
/-- operands and expressions, however deep -/
theorem op_all {D len : Nat} {t : Nat → Int32} (hlen : len ≤ 120) : ∀ e o F m, o + e = 6 → Xs D len t o (fun M => lO (F + 7 * e + 1) M (nI o)) (fun M => mO (m + 7 * e + 1) M) := by
  intro e
  induction e with
  | zero => intro o F m ho; exact op_l (by omega) (fun h => absurd h (by omega)) (fun h => absurd h (by omega))
  | succ e ih =>
    intro o F m ho
    refine op_l (F := F + 7 * (e + 1)) (m := m + 7 * (e + 1)) (by omega) (fun h => ?_) (fun h => ?_)
    · have := ih (o + 1) (F + 6) (m + 6) (by omega)
      rw [show F + 6 + 7 * e + 1 = F + 7 * (e + 1) by omega, show m + 6 + 7 * e + 1 = m + 7 * (e + 1) by omega] at this
      exact this
    · have := lev_all hlen (ih (o + 1) F (m + 1) (by omega))
      rw [show F + 7 * e + 1 + 6 = F + 7 * (e + 1) by omega, show m + 1 + 7 * e + 1 + 5 = m + 7 * (e + 1) by omega] at this
      exact this
/-- an expression -/
theorem ex_l {D len : Nat} {t : Nat → Int32} (hlen : len ≤ 120) : Xs D len t 0 (fun M => fLaw_readJoined M 0 0) fMd_isE := lev_all (F := 94) (m := 95) hlen (op_all hlen 6 0 51 52 (by omega))
