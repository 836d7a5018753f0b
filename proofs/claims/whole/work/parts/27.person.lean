/-! person, people -/
theorem shelf_cases (x : Int32) : (fShelves_isShelf x = 0 ∧ fMd_isShelf x = 0) ∨ ∃ s : Nat, s < 6 ∧ x = nI s ∧ fShelves_isShelf x = 1 ∧ fMd_isShelf x = 1 := by
  by_cases h : x < 0 ∨ 6 ≤ x
  · left
    unfold fShelves_isShelf fMd_isShelf fMd_within
    grind
  · right
    obtain ⟨c, hc, rfl⟩ := in_lit (x := x) (b := 6) 6 (by omega) rfl (by grind) (by grind)
    refine ⟨c, hc, rfl, ?_⟩
    unfold fShelves_isShelf fMd_isShelf fMd_within
    grind
theorem rdR_n {s : Nat} (h : s < 6) : rdR (nI s) = some (27 + s) := by
  unfold rdR
  rw [if_neg, ix_n (by omega)]
  rintro (q | q)
  · exact nI_pos (by omega) q
  · rw [nI_clamp (by omega)] at q; omega
/-- who came: CELL, THIRST, SKIN of each -/
abbrev Ent : Type := Nat → Int32 × Int32 × Int32
def ClsP (p m : Nat) (E : Ent) (M M1 : Mem) : Prop := Keep [2, 5, 6, 39] [] M M1 ∧ M1.1 2 4 = nI (p + m) ∧ ∀ q, q < 8 → M1.1 39 q = (if p ≤ q ∧ q < p + m then (E (q - p)).1 else M.1 39 q) ∧ M1.1 5 q = (if p ≤ q ∧ q < p + m then (E (q - p)).2.1 else M.1 5 q) ∧ M1.1 6 q = (if p ≤ q ∧ q < p + m then (E (q - p)).2.2 else M.1 6 q)
def MdlP (p m : Nat) (E : Ent) (M M1 : Mem) : Prop := Keep [70] [3] M M1 ∧ M1.1 66 3 = nI (p + m) ∧ ∀ q, q < 8 → M1.1 70 q = (if p ≤ q ∧ q < p + m then (E (q - p)).1 else M.1 70 q) ∧ M1.1 70 (8 + q) = (if p ≤ q ∧ q < p + m then (E (q - p)).2.1 else M.1 70 (8 + q)) ∧ M1.1 70 (16 + q) = (if p ≤ q ∧ q < p + m then (E (q - p)).2.2 else M.1 70 (16 + q)) ∧ M1.1 70 (24 + q) = (if p ≤ q ∧ q < p + m then 0 else M.1 70 (24 + q))
theorem ClsP.z {p : Nat} (E : Ent) {M : Mem} (h : M.1 2 4 = nI p) : ClsP p 0 E M M := ⟨(Keep.rf M).sub rfl rfl, h, fun q _ => by
  have : ¬ (p ≤ q ∧ q < p + 0) := by omega
  simp only [if_neg this, and_self]⟩
theorem MdlP.z {p : Nat} (E : Ent) {M : Mem} (h : M.1 66 3 = nI p) : MdlP p 0 E M M := ⟨(Keep.rf M).sub rfl rfl, h, fun q _ => by
  have : ¬ (p ≤ q ∧ q < p + 0) := by omega
  simp only [if_neg this, and_self]⟩
theorem ClsP.s {p m : Nat} {E : Ent} {M M1 : Mem} (h : ClsP p m E M M1) (hm : p + m < 8) : ∃ M2, fWorld_seated M1 (E m).1 (E m).2.1 (E m).2.2 = some (nI (p + m), M2) ∧ ClsP p (m + 1) E M M2 := by
  obtain ⟨h1, h2, h3⟩ := h
  refine ⟨wI (wI (wI (wI M1 5 (p + m) (E m).2.1) 6 (p + m) (E m).2.2) 39 (p + m) (E m).1) 2 4 (nI (p + m + 1)), ?_, ?_, rfl, fun q hq => ?_⟩
  · simp [fWorld_seated, h2, stI_n hm (by omega : 8 ≤ 1000), wI_1, upd_a]
    simp [nI_1]
  · exact ((((h1.tr (Keep.w _ 5 _ _ (by decide))).tr (Keep.w _ 6 _ _ (by decide))).tr (Keep.w _ 39 _ _ (by decide))).tr (Keep.w _ 2 _ _ (by decide))).sub rfl rfl
  · obtain ⟨a1, a2, a3⟩ := h3 q hq
    have b1 : (wI (wI (wI (wI M1 5 (p + m) (E m).2.1) 6 (p + m) (E m).2.2) 39 (p + m) (E m).1) 2 4 (nI (p + m + 1))).1 39 = upd (M1.1 39) (p + m) (E m).1 := rfl
    have b2 : (wI (wI (wI (wI M1 5 (p + m) (E m).2.1) 6 (p + m) (E m).2.2) 39 (p + m) (E m).1) 2 4 (nI (p + m + 1))).1 5 = upd (M1.1 5) (p + m) (E m).2.1 := rfl
    have b3 : (wI (wI (wI (wI M1 5 (p + m) (E m).2.1) 6 (p + m) (E m).2.2) 39 (p + m) (E m).1) 2 4 (nI (p + m + 1))).1 6 = upd (M1.1 6) (p + m) (E m).2.2 := rfl
    rw [b1, b2, b3, upd_a, upd_a, upd_a]
    by_cases e : q = p + m
    · have e1 : p ≤ q ∧ q < p + (m + 1) := by omega
      have e2 : q - p = m := by omega
      rw [if_pos e, if_pos e, if_pos e, if_pos e1, if_pos e1, if_pos e1, e2]
      exact ⟨rfl, rfl, rfl⟩
    · have e1 : (p ≤ q ∧ q < p + (m + 1)) ↔ (p ≤ q ∧ q < p + m) := by omega
      rw [if_neg e, if_neg e, if_neg e, a1, a2, a3]
      simp only [e1, and_self]
theorem MdlP.s {p m : Nat} {E : Ent} {M M1 : Mem} (h : MdlP p m E M M1) (hm : p + m < 8) : ∃ M2, fMd_newOne M1 (E m).1 (E m).2.1 (E m).2.2 = some (nI (p + m), M2) ∧ MdlP p (m + 1) E M M2 := by
  obtain ⟨h1, h2, h3⟩ := h
  have a8 : (8 : Int32) + nI (p + m) = nI (8 + (p + m)) := nI_add 8 _
  have a16 : (16 : Int32) + nI (p + m) = nI (16 + (p + m)) := nI_add 16 _
  have a24 : (24 : Int32) + nI (p + m) = nI (24 + (p + m)) := nI_add 24 _
  refine ⟨wI (wI (wI (wI (wI M1 70 (p + m) (E m).1) 70 (8 + (p + m)) (E m).2.1) 70 (16 + (p + m)) (E m).2.2) 70 (24 + (p + m)) 0) 66 3 (nI (p + m + 1)), ?_, ?_, rfl, fun q hq => ?_⟩
  · simp [fMd_newOne, h2, a8, a16, a24, stI_n (show p + m < 32 by omega) (by omega : 32 ≤ 1000), stI_n (show 8 + (p + m) < 32 by omega) (by omega : 32 ≤ 1000), stI_n (show 16 + (p + m) < 32 by omega) (by omega : 32 ≤ 1000), stI_n (show 24 + (p + m) < 32 by omega) (by omega : 32 ≤ 1000), wI_1, upd_a]
    simp [nI_1]
  · exact (((((h1.tr (Keep.w _ 70 _ _ (by decide))).tr (Keep.w _ 70 _ _ (by decide))).tr (Keep.w _ 70 _ _ (by decide))).tr (Keep.w _ 70 _ _ (by decide))).tr (Keep.w66 _ 3 _)).sub rfl rfl
  · obtain ⟨a1, a2, a3, a4⟩ := h3 q hq
    have b1 : (wI (wI (wI (wI (wI M1 70 (p + m) (E m).1) 70 (8 + (p + m)) (E m).2.1) 70 (16 + (p + m)) (E m).2.2) 70 (24 + (p + m)) 0) 66 3 (nI (p + m + 1))).1 70 = upd (upd (upd (upd (M1.1 70) (p + m) (E m).1) (8 + (p + m)) (E m).2.1) (16 + (p + m)) (E m).2.2) (24 + (p + m)) 0 := by
      simp [wI_1]
    rw [b1]
    simp only [upd_a]
    have n1 : ¬ q = 24 + (p + m) := by omega
    have n2 : ¬ q = 16 + (p + m) := by omega
    have n3 : ¬ q = 8 + (p + m) := by omega
    have n4 : ¬ 8 + q = 24 + (p + m) := by omega
    have n5 : ¬ 8 + q = 16 + (p + m) := by omega
    have n7 : ¬ 16 + q = 24 + (p + m) := by omega
    have n8 : ¬ 16 + q = 8 + (p + m) := by omega
    have n9 : ¬ 16 + q = p + m := by omega
    have n10 : ¬ 24 + q = 16 + (p + m) := by omega
    have n11 : ¬ 24 + q = 8 + (p + m) := by omega
    have n12 : ¬ 24 + q = p + m := by omega
    have n13 : ¬ 8 + q = p + m := by omega
    by_cases e : q = p + m
    · have e1 : p ≤ q ∧ q < p + (m + 1) := by omega
      have e2 : q - p = m := by omega
      have p1 : 8 + q = 8 + (p + m) := by omega
      have p2 : 16 + q = 16 + (p + m) := by omega
      have p3 : 24 + q = 24 + (p + m) := by omega
      simp only [if_neg n1, if_neg n2, if_neg n3, if_neg n4, if_neg n5, if_neg n7, if_neg n8, if_neg n10, if_neg n11, if_pos e, if_pos p1, if_pos p2, if_pos p3, if_pos e1, e2, and_self]
    · have e1 : (p ≤ q ∧ q < p + (m + 1)) ↔ (p ≤ q ∧ q < p + m) := by omega
      have p1 : ¬ 8 + q = 8 + (p + m) := by omega
      have p2 : ¬ 16 + q = 16 + (p + m) := by omega
      have p3 : ¬ 24 + q = 24 + (p + m) := by omega
      simp only [if_neg n1, if_neg n2, if_neg n3, if_neg n4, if_neg n5, if_neg n7, if_neg n8, if_neg n9, if_neg n10, if_neg n11, if_neg n12, if_neg n13, if_neg e, if_neg p1, if_neg p2, if_neg p3, a1, a2, a3, a4, e1, and_self]
/-- a cell, a thirst, a skin -/
def okE (e : Int32 × Int32 × Int32) : Prop := ¬ fMd_isCell e.1 = 0 ∧ ¬ fMd_within e.2.1 0 99 = 0 ∧ ¬ fMd_within e.2.2 0 1 = 0
theorem IvN_sit {p m : Nat} {E : Ent} {M M1 M2 : Mem} (hN : IvN p M) (hC : ClsP p m E M M1) (hM : MdlP p m E M1 M2) (hm : p + m ≤ 8) (hE : ∀ j, j < m → okE (E j)) : IvN (p + m) M2 := by
  obtain ⟨g1, g2, g3, g4, g5, g6, g7, g8, g9, g10⟩ := hN
  obtain ⟨c1, c2, c3⟩ := hC
  obtain ⟨d1, d2, d3⟩ := hM
  have K := c1.tr d1
  refine ⟨hm, ?_, d2, ?_, ?_, ?_, fun q hq => ?_, fun q h1 h2 => ?_, ?_, ?_⟩
  · rw [d1.c 2 rfl (by decide)]; exact c2
  · rw [K.c 67 rfl (by decide), K.c 3 rfl (by decide)]; exact g4
  · rw [K.c 68 rfl (by decide), K.c 37 rfl (by decide)]; exact g5
  · rw [K.c 69 rfl (by decide), K.c 38 rfl (by decide)]; exact g6
  · have q8 : q < 8 := by omega
    obtain ⟨a1, a2, a3⟩ := c3 q q8
    obtain ⟨b1, b2, b3, b4⟩ := d3 q q8
    rw [b1, b2, b3, b4, d1.c 39 rfl (by decide), d1.c 5 rfl (by decide), d1.c 6 rfl (by decide), a1, a2, a3, K.c 40 rfl (by decide), c1.c 70 rfl (by decide)]
    by_cases z : p ≤ q ∧ q < p + m
    · simp only [if_pos z]
      obtain ⟨o1, o2, o3⟩ := hE (q - p) (by omega)
      have o0 : (0 : Int32) = M.1 40 q := (g8 q z.1 q8).symm
      refine ⟨⟨trivial, ?_⟩, ⟨trivial, within_rng o2⟩, ⟨trivial, within_rng o3⟩, o0, ?_⟩
      · rcases cell_cases (E (q - p)).1 with ⟨-, w⟩ | ⟨c, hc, e, -⟩
        · exact absurd w o1
        · exact ⟨c, hc, e⟩
      · rw [← o0]; exact ⟨by decide, by decide⟩
    · simp only [if_neg z]
      exact g7 q (by omega)
  · rw [K.c 40 rfl (by decide)]
    exact g8 q (by omega) h2
  · rw [K.i66 5 rfl, K.c 36 rfl (by decide)]; exact g9
  · rw [K.c 4 rfl (by decide), K.c 3 rfl (by decide)]; exact g10
theorem IvC.mono {p p2 : Nat} {M : Mem} (h : IvC p M) (hp : p ≤ p2) : IvC p2 M := by
  obtain ⟨u, a, u1, u2, u3, u4, u5, u6, u7⟩ := h
  refine ⟨u, a, u1, u2, u3, u4, u5, u6, fun i hi => ?_⟩
  obtain ⟨c1, c2, c3, c4, ⟨k, j, ek, ej, hkj⟩, f1, f2⟩ := u7 i hi
  refine ⟨c1, c2, c3, c4, ⟨k, j, ek, ej, ?_⟩, f1, f2⟩
  rcases hkj with h | h | h
  · exact Or.inl h
  · exact Or.inr (Or.inl ⟨h.1, h.2.1, by omega⟩)
  · exact Or.inr (Or.inr h)
theorem IvI.mono {p p2 : Nat} {M : Mem} (h : IvI p M) (hp : p ≤ p2) : IvI p2 M := by
  rcases h with h | ⟨p0, h1, h2⟩
  · exact Or.inl h
  · exact Or.inr ⟨p0, by omega, h2⟩
theorem Inv_sit {p n m : Nat} {E : Ent} {M M1 M2 : Mem} (hN : IvN p M) (hT : IvT M) (hD : IvD M) (hIm : IvI p M) (hC : IvC p M) (hB : IvB n M) (hS : IvS n M) (hZ : IvZ M) (hL : IvL M) (hCl : ClsP p m E M M1) (hM : MdlP p m E M1 M2) (hm : p + m ≤ 8) (hE : ∀ j, j < m → okE (E j)) : Inv M2 := by
  have K := hCl.1.tr hM.1
  exact ⟨p + m, n, IvN_sit hN hCl hM hm hE, hT.kp K ⟨rfl, rfl, rfl, rfl⟩, hD.kp K ⟨rfl, rfl⟩, (hIm.kp K ⟨rfl, rfl, rfl, rfl, rfl, rfl, rfl, rfl, rfl, rfl, rfl⟩).mono (by omega), (hC.kp K ⟨rfl, rfl, rfl, rfl, rfl, rfl, rfl, rfl, rfl⟩).mono (by omega), hB.kp K ⟨rfl, rfl, rfl, rfl, rfl, rfl, rfl, rfl⟩, hS.kp K ⟨rfl, rfl, rfl, rfl⟩, hZ.kp K ⟨rfl, rfl, rfl, rfl⟩, hL.kp K ⟨rfl, rfl, rfl, rfl, rfl, rfl, rfl, rfl, rfl⟩⟩
theorem s_person (x : Int32) : Sim (fun M => fSh_person M x) (fun M => fMd_person M x) := by
  rintro M hI
  rcases cell_cases x with ⟨h1, h2⟩ | ⟨c, hc, rfl, h1, h2⟩
  · exact ⟨-1, M, M, by simp [fSh_person, h1], by simp [fMd_person, h2], hI⟩
  have hI0 := hI
  obtain ⟨p, n, hN, hT, hD, hIm, hC, hB, hS, hZ, hL⟩ := hI
  by_cases hp : p = 8
  · subst hp
    have g2 : M.1 2 4 = 8 := hN.2.1
    have g3 : M.1 66 3 = 8 := hN.2.2.1
    refine ⟨-3, M, M, ?_, ?_, hI0⟩
    · simp [fSh_person, h1, fWorld_isCrowded, g2]
    · simp [fMd_person, h2, g3]
  have p8 : p < 8 := by have := hN.1; omega
  have hC0 := ClsP.z (E := fun _ => (nI c, 5, 0)) hN.2.1
  obtain ⟨M1, e1, hC1⟩ := hC0.s p8
  have k3 : M1.1 66 3 = nI p := by rw [hC1.1.i66 3 rfl]; exact hN.2.2.1
  have hM0 := MdlP.z (E := fun _ => (nI c, 5, 0)) k3
  obtain ⟨M2, e2, hM1⟩ := hM0.s p8
  have l8 : nI p < 8 := (nI_ltI (b := 8) (by omega) (by omega)).mpr p8
  have n8 : ¬ nI p = 8 := fun z => hp ((nI_eq (b := 8) (by omega) (by omega)).mp z)
  refine ⟨nI p, M1, M2, ?_, ?_, Inv_sit hN hT hD hIm hC hB hS hZ hL hC1 hM1 p8 (fun j hj => ⟨by rw [h2]; decide, show ¬ fMd_within 5 0 99 = 0 by decide, show ¬ fMd_within 0 0 1 = 0 by decide⟩)⟩
  · have e1' : fWorld_seated M (nI c) 5 0 = some (nI p, M1) := e1
    simp [fSh_person, h1, fWorld_isCrowded, hN.2.1, l8, e1']
  · have e2' : fMd_newOne M1 (nI c) 5 0 = some (nI p, M2) := e2
    simp [fMd_person, h2, k3, n8, e2']
