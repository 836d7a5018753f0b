/-! LAW: the class's reading and the reference's side by side -/
def sgn (t : Nat → Int32) (len pos : Nat) : Int32 := if len ≤ pos then -1 else t pos
def RdL (D len : Nat) (t : Nat → Int32) (o : Nat) (Dl Cl : List Int32) (pos : Nat) (MC MM : Mem) : Prop := (len ≤ 120 ∧ MC.1 7 0 = nI len ∧ MM.1 66 6 = nI len ∧ ∀ i, i < len → MC.1 8 i = t i ∧ MM.1 71 i = t i) ∧ (pos ≤ len ∧ MC.1 7 2 = nI pos ∧ MM.1 66 14 = nI pos) ∧ (D = 9 ∨ D = 10) ∧ MC.2.2.1 = D ∧ MC.1 7 4 = nI Dl.length ∧ (∀ (j : Nat) (c : Int32), Dl[j]? = some c → MC.1 D j = c) ∧ MM.1 66 15 = nI o ∧ MM.1 66 16 = nI Cl.length ∧ ∀ (j : Nat) (c : Int32), Cl[j]? = some c → MM.1 79 j = c
def PcL (D a i : Nat) : Prop := (a = 7 ∧ (i = 2 ∨ i = 4)) ∨ a = D
def PmL (a i : Nat) : Prop := (a = 66 ∧ 14 ≤ i ∧ i ≤ 16) ∨ a = 79
def GE (E : List Int32) : Prop := (∀ d, dep d E = some (d + 1)) ∧ ∀ c ∈ E, 0 ≤ c ∧ c ≤ 10017
def Xs (D len : Nat) (t : Nat → Int32) (o : Nat) (fc fm : Mem → Option (Int32 × Mem)) : Prop := ∀ Dl Cl pos MC MM, RdL D len t o Dl Cl pos MC MM → Dl.length ≤ 2 * pos → Cl.length ≤ pos → ∃ v E pos' MC' MM', fc MC = some (v, MC') ∧ fm MM = some (v, MM') ∧ RdL D len t o (Dl ++ E.map phi) (Cl ++ E) pos' MC' MM' ∧ E.length + pos ≤ pos' ∧ Kp (PcL D) MC MC' ∧ Kp PmL MM MM' ∧ (v = 0 ∨ v = 1 ∧ pos < pos' ∧ GE E)
theorem RdL.sc {D len o pos : Nat} {t : Nat → Int32} {Dl Cl : List Int32} {MC MM : Mem} (h : RdL D len t o Dl Cl pos MC MM) : fLaw_sign MC = some (sgn t len pos) := by
  obtain ⟨⟨a1, a2, a3, a4⟩, ⟨b1, b2, b3⟩, -⟩ := h
  unfold fLaw_sign sgn
  rw [a2, b2]
  by_cases q : len ≤ pos
  · rw [if_pos q, if_pos ((nI_leI (by omega) (by omega)).mpr q)]
  · have q' : ¬ nI len ≤ nI pos := fun z => q ((nI_leI (by omega) (by omega)).mp z)
    rw [if_neg q, if_neg q', rdI_n (by omega) (by omega), Option.bind_some, (a4 pos (by omega)).1]
theorem RdL.sm {D len o pos : Nat} {t : Nat → Int32} {Dl Cl : List Int32} {MC MM : Mem} (h : RdL D len t o Dl Cl pos MC MM) : fMd_sign MM = some (sgn t len pos) := by
  obtain ⟨⟨a1, a2, a3, a4⟩, ⟨b1, b2, b3⟩, -⟩ := h
  unfold fMd_sign sgn
  rw [a3, b3]
  by_cases q : len ≤ pos
  · rw [if_pos q, if_pos ((nI_leI (by omega) (by omega)).mpr q)]
  · have q' : ¬ nI len ≤ nI pos := fun z => q ((nI_leI (by omega) (by omega)).mp z)
    rw [if_neg q, if_neg q', rdI_n (by omega) (by omega), Option.bind_some, (a4 pos (by omega)).2]
theorem sgn_in {t : Nat → Int32} {len pos : Nat} {c : Int32} (h : sgn t len pos = c) (hc : ¬ c = -1) : pos < len := by
  unfold sgn at h
  by_cases q : len ≤ pos
  · rw [if_pos q] at h; exact absurd h.symm hc
  · omega
theorem RdL.adv {D len o pos : Nat} {t : Nat → Int32} {Dl Cl : List Int32} {MC MM : Mem} (h : RdL D len t o Dl Cl pos MC MM) (hp : pos < len) : RdL D len t o Dl Cl (pos + 1) (wI MC 7 2 (MC.1 7 2 + 1)) (wI MM 66 14 (MM.1 66 14 + 1)) ∧ Kp (PcL D) MC (wI MC 7 2 (MC.1 7 2 + 1)) ∧ Kp PmL MM (wI MM 66 14 (MM.1 66 14 + 1)) := by
  obtain ⟨⟨a1, a2, a3, a4⟩, ⟨b1, b2, b3⟩, c1, c2, c3, c4, c5, c6, c7⟩ := h
  refine ⟨⟨⟨a1, a2, a3, a4⟩, ⟨hp, ?_, ?_⟩, c1, c2, c3, fun j c hj => ?_, c5, c6, c7⟩, Kp.w _ _ (by unfold PcL; omega), Kp.w _ _ (by unfold PmL; omega)⟩
  · rw [b2, nI_1]; rfl
  · rw [b3, nI_1]; rfl
  · rw [← c4 j c hj]
    rcases c1 with rfl | rfl <;> rfl
theorem get_snoc {l : List Int32} {x c : Int32} {j : Nat} (h : (l ++ [x])[j]? = some c) : (j < l.length ∧ l[j]? = some c) ∨ (j = l.length ∧ c = x) := by
  rw [List.getElem?_append] at h
  by_cases q : j < l.length
  · rw [if_pos q] at h; exact Or.inl ⟨q, h⟩
  · rw [if_neg q] at h
    right
    obtain ⟨z, hz⟩ : ∃ z, j - l.length = z := ⟨_, rfl⟩
    rw [hz] at h
    match z with
    | 0 => exact ⟨by omega, (Option.some.inj h).symm⟩
    | z + 1 => simp at h
theorem RdL.emit {D len o pos : Nat} {t : Nat → Int32} {Dl Cl : List Int32} {MC MM : Mem} (h : RdL D len t o Dl Cl pos MC MM) (hD : Dl.length < 240) (hC : Cl.length < 200) (x c : Int32) : ∃ MC' MM', fLaw_step MC x = some MC' ∧ fMd_codes MM c = some (1, MM') ∧ RdL D len t o (Dl ++ [x]) (Cl ++ [c]) pos MC' MM' ∧ Kp (PcL D) MC MC' ∧ Kp PmL MM MM' := by
  obtain ⟨⟨a1, a2, a3, a4⟩, ⟨b1, b2, b3⟩, c1, c2, c3, c4, c5, c6, c7⟩ := h
  have n7 : D ≠ 7 := by omega
  have n8 : D ≠ 8 := by omega
  have eD : ∀ (y : Int32) (a i : Nat), a ≠ D → (wI MC D Dl.length y).1 a i = MC.1 a i := fun y a i ha => by rw [wI_1, if_neg ha]
  refine ⟨wI (wI MC D Dl.length x) 7 4 (nI (Dl.length + 1)), wI (wI MM 66 16 (nI (Cl.length + 1))) 79 Cl.length c, ?_, ?_, ⟨⟨a1, ?_, a3, fun i hi => ⟨?_, (a4 i hi).2⟩⟩, ⟨b1, ?_, b3⟩, c1, c2, ?_, fun j z hj => ?_, c5, ?_, fun j z hj => ?_⟩, (Kp.w _ _ (by unfold PcL; omega)).tr (Kp.w _ _ (by unfold PcL; omega)), (Kp.w _ _ (by unfold PmL; omega)).tr (Kp.w _ _ (by unfold PmL; omega))⟩
  · have l1 : lnD MC.2.2.1 = some 240 := by rw [c2, lnD, if_pos c1]
    have l2 : ¬ (240 : Int32) ≤ nI Dl.length := fun z => absurd ((leL (b := 240) 240 rfl (by omega) (by omega)).mp z) (by omega)
    have l3 : stD MC.2.2.1 MC (nI Dl.length) x = some (wI MC D Dl.length x) := by rw [c2, stD, if_pos c1, stI_n hD (by omega)]
    rw [fLaw_step, l1, Option.bind_some, c3, if_neg l2, l3, Option.bind_some, eD _ _ _ n7.symm, c3, nI_1]
  · rw [fMd_codes, c6, nI_1, stI_n hC (by omega), Option.bind_some]
  · show (wI MC D Dl.length x).1 7 0 = _
    rw [eD _ _ _ n7.symm]; exact a2
  · show (wI MC D Dl.length x).1 8 i = _
    rw [eD _ _ _ n8.symm]; exact (a4 i hi).1
  · show (wI MC D Dl.length x).1 7 2 = _
    rw [eD _ _ _ n7.symm]; exact b2
  · rw [List.length_append]; rfl
  · have : (wI (wI MC D Dl.length x) 7 4 (nI (Dl.length + 1))).1 D j = if j = Dl.length then x else MC.1 D j := by
      rw [wI_1, if_neg n7, wI_1, if_pos rfl, upd_a]
    rw [this]
    rcases get_snoc hj with ⟨q1, q2⟩ | ⟨q1, q2⟩
    · rw [if_neg (by omega)]; exact c4 j z q2
    · rw [if_pos q1, q2]
  · rw [List.length_append]; rfl
  · have : (wI (wI MM 66 16 (nI (Cl.length + 1))) 79 Cl.length c).1 79 j = if j = Cl.length then c else MM.1 79 j := by
      rw [wI_1, if_pos rfl, upd_a]; rfl
    rw [this]
    rcases get_snoc hj with ⟨q1, q2⟩ | ⟨q1, q2⟩
    · rw [if_neg (by omega)]; exact c7 j z q2
    · rw [if_pos q1, q2]
theorem dep_ap : ∀ (E F : List Int32) (d : Nat), dep d (E ++ F) = Option.bind (dep d E) fun d' => dep d' F := by
  intro E
  induction E with
  | nil => intro F d; rfl
  | cons c r ih =>
    intro F d
    show dep d (c :: (r ++ F)) = _
    rw [dep, dep]
    by_cases h1 : 18 ≤ c ∨ c ≤ 5
    · rw [if_pos h1, if_pos h1, ih]
    rw [if_neg h1, if_neg h1]
    by_cases h2 : c = 16 ∨ c = 17
    · rw [if_pos h2, if_pos h2]
      by_cases h3 : 1 ≤ d
      · rw [if_pos h3, if_pos h3, ih]
      · rw [if_neg h3, if_neg h3]; rfl
    · rw [if_neg h2, if_neg h2]
      by_cases h3 : 2 ≤ d
      · rw [if_pos h3, if_pos h3, ih]
      · rw [if_neg h3, if_neg h3]; rfl
