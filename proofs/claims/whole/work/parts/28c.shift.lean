/-! shift -/
def cpf (f : Nat → Int64) (A B n : Nat) : Nat → Int64 := fun x => if B ≤ x ∧ x < B + n then f (A + (x - B)) else f x
theorem upL_self (M : Mem) (a : Nat) : upL M a (M.2.1 a) = M := by
  refine Prod.ext rfl (Prod.ext (funext fun b => ?_) rfl)
  by_cases q : b = a <;> simp [upL, q]
theorem wL_upL (M : Mem) (a i : Nat) (g : Nat → Int64) (x : Int64) : wL (upL M a g) a i x = upL M a (vp_updL g i x) := by
  refine Prod.ext rfl (Prod.ext (funext fun b => ?_) rfl)
  by_cases q : b = a <;> simp [wL, upL, q]
theorem n60b (s i c : Nat) : (60 : Int32) * nI s + nI i + nI c = nI (60 * s + i + c) := by rw [n60, nI_add]
theorem fwd_ok (M : Mem) (s i o j n : Nat) (hs : s < 6) (ho : o < 6) (hi : i + n ≤ 60) (hj : j + n ≤ 60) (hd : s ≠ o ∨ j ≤ i) : fMd_shift_L188 FU M (nI s) (nI i) (nI o) (nI j) (nI n) 0 = some (upL M 90 (cpf (M.2.1 90) (60 * s + i) (60 * o + j) n)) := by
  obtain ⟨r, e, hr⟩ := loop0 (σ := Mem × Int32) (fun k t => fMd_shift_L188 k t.1 (nI s) (nI i) (nI o) (nI j) (nI n) t.2) (fun c t => t = (upL M 90 (cpf (M.2.1 90) (60 * s + i) (60 * o + j) c), nI c)) (fun r => r = upL M 90 (cpf (M.2.1 90) (60 * s + i) (60 * o + j) n)) n (fu_lt (by omega)) (M, 0)
    (by
      have : cpf (M.2.1 90) (60 * s + i) (60 * o + j) 0 = M.2.1 90 := funext fun x => by unfold cpf; rw [if_neg (by omega)]
      rw [this, upL_self]; rfl)
    (fun k c t hc hP => by
      subst hP
      right
      refine ⟨(upL M 90 (cpf (M.2.1 90) (60 * s + i) (60 * o + j) (c + 1)), nI (c + 1)), rfl, ?_⟩
      show fMd_shift_L188_F (fMd_shift_L188 k) _ _ _ _ _ _ _ = _
      have h1 : ¬ nI n ≤ nI c := nI_ge hc (by omega)
      have e1 : vp_updL (cpf (M.2.1 90) (60 * s + i) (60 * o + j) c) (60 * o + j + c) (cpf (M.2.1 90) (60 * s + i) (60 * o + j) c (60 * s + i + c)) = cpf (M.2.1 90) (60 * s + i) (60 * o + j) (c + 1) := funext fun x => by
        have r0 : ¬ (60 * o + j ≤ 60 * s + i + c ∧ 60 * s + i + c < 60 * o + j + c) := by omega
        unfold cpf
        rw [updL_a, if_neg r0]
        by_cases q : x = 60 * o + j + c
        · have r1 : 60 * o + j ≤ x ∧ x < 60 * o + j + (c + 1) := by omega
          have r2 : x - (60 * o + j) = c := by omega
          rw [if_pos q, if_pos r1, r2]
        · have r1 : (60 * o + j ≤ x ∧ x < 60 * o + j + (c + 1)) ↔ (60 * o + j ≤ x ∧ x < 60 * o + j + c) := by omega
          rw [if_neg q]
          simp only [r1]
      have e2 : (upL M 90 (cpf (M.2.1 90) (60 * s + i) (60 * o + j) c)).2.1 90 = cpf (M.2.1 90) (60 * s + i) (60 * o + j) c := by rw [upL_2, if_pos rfl]
      simp only [fMd_shift_L188_F, h1, if_false, n60b, rdL_n (show 60 * s + i + c < 360 by omega) (by omega : 360 ≤ 1000), stL_n (show 60 * o + j + c < 360 by omega) (by omega : 360 ≤ 1000), Option.bind_some, e2, wL_upL, e1, nI_1])
    (fun k t hP => by
      subst hP
      refine ⟨_, ?_, rfl⟩
      show fMd_shift_L188_F (fMd_shift_L188 k) _ _ _ _ _ _ _ = _
      simp only [fMd_shift_L188_F, Int32.le_refl, if_true])
  subst hr
  exact e
/-- what a run from the top has done: all from c on -/
def cpb (f : Nat → Int64) (A B c n : Nat) : Nat → Int64 := fun x => if B + c ≤ x ∧ x < B + n then f (A + (x - B)) else f x
theorem bwd_ok (M : Mem) (s i j n : Nat) (hs : s < 6) (hi : i + n ≤ 60) (hj : j + n ≤ 60) (hd : i < j) : fMd_shift_L142 FU M (nI s) (nI i) (nI s) (nI j) (nI n - 1) = some (upL M 90 (cpf (M.2.1 90) (60 * s + i) (60 * s + j) n)) := by
  have key : ∀ (c k : Nat), c ≤ n → c < k → fMd_shift_L142 k (upL M 90 (cpb (M.2.1 90) (60 * s + i) (60 * s + j) c n)) (nI s) (nI i) (nI s) (nI j) (nI c - 1) = some (upL M 90 (cpb (M.2.1 90) (60 * s + i) (60 * s + j) 0 n)) := by
    intro c
    induction c with
    | zero =>
      intro k _ hk
      obtain ⟨k, rfl⟩ : ∃ q, k = q + 1 := ⟨k - 1, by omega⟩
      have z : nI 0 - 1 < 0 := by decide
      show fMd_shift_L142_F (fMd_shift_L142 k) _ _ _ _ _ _ = _
      simp only [fMd_shift_L142_F, z, if_true]
    | succ c ih =>
      intro k hc hk
      obtain ⟨k, rfl⟩ : ∃ q, k = q + 1 := ⟨k - 1, by omega⟩
      show fMd_shift_L142_F (fMd_shift_L142 k) _ _ _ _ _ _ = _
      have e0 : nI (c + 1) - 1 = nI c := nI_pred c
      have h1 : ¬ nI c < 0 := nI_pos (by omega)
      have e1 : vp_updL (cpb (M.2.1 90) (60 * s + i) (60 * s + j) (c + 1) n) (60 * s + j + c) (cpb (M.2.1 90) (60 * s + i) (60 * s + j) (c + 1) n (60 * s + i + c)) = cpb (M.2.1 90) (60 * s + i) (60 * s + j) c n := funext fun x => by
        have r0 : ¬ (60 * s + j + (c + 1) ≤ 60 * s + i + c ∧ 60 * s + i + c < 60 * s + j + n) := by omega
        unfold cpb
        rw [updL_a, if_neg r0]
        by_cases q : x = 60 * s + j + c
        · have r1 : 60 * s + j + c ≤ x ∧ x < 60 * s + j + n := by omega
          have r2 : x - (60 * s + j) = c := by omega
          rw [if_pos q, if_pos r1, r2]
        · have r1 : (60 * s + j + (c + 1) ≤ x ∧ x < 60 * s + j + n) ↔ (60 * s + j + c ≤ x ∧ x < 60 * s + j + n) := by omega
          rw [if_neg q]
          simp only [r1]
      have e2 : (upL M 90 (cpb (M.2.1 90) (60 * s + i) (60 * s + j) (c + 1) n)).2.1 90 = cpb (M.2.1 90) (60 * s + i) (60 * s + j) (c + 1) n := by rw [upL_2, if_pos rfl]
      have e3 : nI c + (-1) = nI c - 1 := by rw [Int32.sub_eq_add_neg]
      simp only [fMd_shift_L142_F, e0, h1, if_false, n60b, rdL_n (show 60 * s + i + c < 360 by omega) (by omega : 360 ≤ 1000), stL_n (show 60 * s + j + c < 360 by omega) (by omega : 360 ≤ 1000), Option.bind_some, e2, wL_upL, e1, e3]
      exact ih k (by omega) (by omega)
  have h0 : cpb (M.2.1 90) (60 * s + i) (60 * s + j) n n = M.2.1 90 := funext fun x => by unfold cpb; rw [if_neg (by omega)]
  have h1 : cpb (M.2.1 90) (60 * s + i) (60 * s + j) 0 n = cpf (M.2.1 90) (60 * s + i) (60 * s + j) n := rfl
  have := key n FU (Nat.le_refl _) (fu_lt (by omega))
  rwa [h0, upL_self, h1] at this
theorem shift_i (M : Mem) (s i o j n : Nat) (hs : s < 6) (ho : o < 6) (hi : i + n ≤ 60) (hj : j + n ≤ 60) : (if ¬ nI s = nI o then fMd_shift_J185 M (nI s) (nI i) (nI o) (nI j) (nI n) else if nI j ≤ nI i then fMd_shift_J185 M (nI s) (nI i) (nI o) (nI j) (nI n) else Option.bind (fMd_shift_L142 FU M (nI s) (nI i) (nI o) (nI j) (nI n - 1)) fun o34 => some (nI n, o34)) = some (nI n, upL M 90 (cpf (M.2.1 90) (60 * s + i) (60 * o + j) n)) := by
  by_cases q : s = o
  · subst q
    rw [if_neg (by simp)]
    by_cases r : j ≤ i
    · rw [if_pos ((nI_leI (by omega) (by omega)).mpr r), fMd_shift_J185, fwd_ok M s i s j n hs hs hi hj (Or.inr r), Option.bind_some]
    · rw [if_neg (fun z => r ((nI_leI (by omega) (by omega)).mp z)), bwd_ok M s i j n hs hi hj (by omega), Option.bind_some]
  · rw [if_pos (fun z => q ((nI_eq (by omega) (by omega)).mp z)), fMd_shift_J185, fwd_ok M s i o j n hs ho hi hj (Or.inl q), Option.bind_some]
theorem s_shift (x i y j n : Int32) : Sim (fun M => fSh_shift M x i y j n) (fun M => fMd_shift M x i y j n) := by
  rintro M hI
  rcases shelf_cases x with ⟨h1, h2⟩ | ⟨s, hs, rfl, h1, h2⟩
  · exact ⟨-1, M, M, by simp [fSh_shift, h1], by simp [fMd_shift, h2], hI⟩
  rcases shelf_cases y with ⟨h3, h4⟩ | ⟨o, ho, rfl, h3, h4⟩
  · exact ⟨-1, M, M, by simp [fSh_shift, h1, h3], by simp [fMd_shift, h2, h4], hI⟩
  have hI0 := hI
  obtain ⟨p, nb, hN, hT, hD, hIm, hC, hB, hS, hZ, hL⟩ := hI
  have k6 : (6 : Nat) ≤ 1000 := by omega
  have o1 : ¬ (1 : Int32) = 0 := by decide
  have base1 : fSh_shift M (nI s) i (nI o) j n = if M.1 24 s = -1 then some (-11, M) else if M.1 24 o = -1 then some (-11, M) else if fShelves_isSort (M.1 24 s) = 0 then some (-12, M) else if M.1 24 o = M.1 24 s then Option.bind (fShelves_hasPart M (nI s) i n) fun v18 => if v18 = 0 then some (-13, M) else Option.bind (fShelves_hasPart M (nI o) j n) fun v21 => if ¬ v21 = 0 then Option.bind (cpL 60 60 (27 + s) (27 + o) M i j n) fun M26 => some (n, M26) else some (-13, M) else some (-12, M) := by
    simp only [fSh_shift, h1, h3, o1, if_false, not_false_eq_true, if_true, fShelves_isEmpty, fShelves_isRow, fShelves_isRowOf, rdI_n hs k6, rdI_n ho k6, Option.bind_some, rdR_n hs, rdR_n ho]
    by_cases a1 : M.1 24 s = -1
    · simp [a1]
    · by_cases a2 : M.1 24 o = -1
      · simp [a1, a2]
      · by_cases a3 : fShelves_isSort (M.1 24 s) = 0
        · simp [a1, a2, a3]
        · by_cases a4 : M.1 24 o = M.1 24 s
          · have a5 : ¬ M.1 24 s = -1 := a1
            simp [a1, a3, a4]
          · simp [a1, a2, a3, a4]
  have base2 : ∀ M1 : Mem, fMd_shift M1 (nI s) i (nI o) j n = if M1.1 88 s = -1 then some (-11, M1) else if ¬ M1.1 88 o = -1 then if fMd_within (M1.1 88 s) 0 4 = 0 then some (-12, M1) else if fMd_within (M1.1 88 o) 0 4 = 0 then some (-12, M1) else if M1.1 88 s = M1.1 88 o then if n < 0 then some (-13, M1) else if i < 0 then some (-13, M1) else if j < 0 then some (-13, M1) else if 0 < lg_cmp (i.toInt64 + n.toInt64) (M1.1 89 s).toInt64 then some (-13, M1) else if lg_cmp (j.toInt64 + n.toInt64) (M1.1 89 o).toInt64 ≤ 0 then (if ¬ nI s = nI o then fMd_shift_J185 M1 (nI s) i (nI o) j n else if j ≤ i then fMd_shift_J185 M1 (nI s) i (nI o) j n else Option.bind (fMd_shift_L142 FU M1 (nI s) i (nI o) j (n - 1)) fun o34 => some (n, o34)) else some (-13, M1) else some (-12, M1) else some (-11, M1) := fun M1 => by
    simp only [fMd_shift, h2, h4, o1, if_false, not_false_eq_true, if_true, fMd_isRow, rdI_n hs k6, rdI_n ho k6, Option.bind_some]
  have em : ∀ q, q < 6 → M.1 24 q = -1 ∧ M.1 88 q = -1 ∨ (∃ b, b < 50 ∧ M.1 24 q = -2 ∧ M.1 88 q = nI (10 + b)) ∨ ∃ t k : Nat, t < 5 ∧ k ≤ 60 ∧ M.1 24 q = nI t ∧ M.1 88 q = nI t ∧ M.1 25 q = nI k ∧ M.1 89 q = nI k ∧ ∀ i, i < 60 → M.2.1 90 (60 * q + i) = M.2.1 (27 + q) i ∧ okEl t (M.2.1 (27 + q) i) := fun q hq => by
    rcases hS q hq with r | ⟨b, hb, r1, r2, r3⟩ | r
    · exact Or.inl r
    · exact Or.inr (Or.inl ⟨b, by have := hB.1; omega, r1, r3⟩)
    · exact Or.inr (Or.inr r)
  have e22 : ¬ (-2 : Int32) = -1 := by decide
  rcases em s hs with ⟨z1, z2⟩ | ⟨b, hb, z1, z3⟩ | ⟨t, k, ht, hk, z1, z2, z3, z4, z5⟩
  · exact ⟨-11, M, M, by simp [base1, z1], by simp [base2, z2], hI0⟩
  · have y1 := m1_ne (n := 10 + b) (by omega)
    obtain ⟨y2, y3⟩ := shoe_n hb
    rcases em o ho with ⟨w1, w2⟩ | ⟨b', hb', w1, w3⟩ | ⟨t', k', ht', hk', w1, w2, w3, w4, w5⟩
    · exact ⟨-11, M, M, by simp [base1, z1, w1], by simp [base2, z3, w2, y1], hI0⟩
    · have y1' := m1_ne (n := 10 + b') (by omega)
      exact ⟨-12, M, M, by simp [base1, z1, w1, y3], by simp [base2, z3, w3, y1, y1', y2], hI0⟩
    · have y1' := m1_ne (n := t') (by omega)
      exact ⟨-12, M, M, by simp [base1, z1, w1, y3, y1'], by simp [base2, z3, w2, y1, y1', y2], hI0⟩
  · have y1 := m1_ne (n := t) (by omega)
    obtain ⟨y2, y3⟩ := sort_n ht
    rcases em o ho with ⟨w1, w2⟩ | ⟨b', hb', w1, w3⟩ | ⟨t', k', ht', hk', w1, w2, w3, w4, w5⟩
    · exact ⟨-11, M, M, by simp [base1, z1, w1, y1], by simp [base2, z2, w2, y1], hI0⟩
    · have y1' := m1_ne (n := 10 + b') (by omega)
      obtain ⟨y2', y3'⟩ := shoe_n hb'
      have ne : ¬ (-2 : Int32) = nI t := fun q => m2_ne (n := t) (by omega) q.symm
      exact ⟨-12, M, M, by simp [base1, z1, w1, y1, y2, ne], by simp [base2, z2, w3, y1, y1', y3, y2'], hI0⟩
    · have y1' := m1_ne (n := t') (by omega)
      obtain ⟨y2', y3'⟩ := sort_n ht'
      by_cases tt : t = t'
      case neg =>
        have ne : ¬ nI t = nI t' := fun q => tt ((nI_eq (by omega) (by omega)).mp q)
        have ne' : ¬ nI t' = nI t := fun q => ne q.symm
        exact ⟨-12, M, M, by simp [base1, z1, w1, y1, y1', y2, ne'], by simp [base2, z2, w2, y1, y1', y3, y3', ne], hI0⟩
      subst tt
      have b1 : fSh_shift M (nI s) i (nI o) j n = Option.bind (fShelves_hasPart M (nI s) i n) fun v18 => if v18 = 0 then some (-13, M) else Option.bind (fShelves_hasPart M (nI o) j n) fun v21 => if ¬ v21 = 0 then Option.bind (cpL 60 60 (27 + s) (27 + o) M i j n) fun M26 => some (n, M26) else some (-13, M) := by
        rw [base1, z1, w1, if_neg y1, if_neg y1, y2, if_neg o1, if_pos rfl]
      have b2 : ∀ M1 : Mem, M1.1 = M.1 → fMd_shift M1 (nI s) i (nI o) j n = if n < 0 then some (-13, M1) else if i < 0 then some (-13, M1) else if j < 0 then some (-13, M1) else if 0 < lg_cmp (i.toInt64 + n.toInt64) (nI k).toInt64 then some (-13, M1) else if lg_cmp (j.toInt64 + n.toInt64) (nI k').toInt64 ≤ 0 then (if ¬ nI s = nI o then fMd_shift_J185 M1 (nI s) i (nI o) j n else if j ≤ i then fMd_shift_J185 M1 (nI s) i (nI o) j n else Option.bind (fMd_shift_L142 FU M1 (nI s) i (nI o) j (n - 1)) fun o34 => some (n, o34)) else some (-13, M1) := fun M1 hM => by
        rw [base2, hM, z2, w2, if_neg y1, if_pos y1, y3, if_neg o1, if_neg o1, if_pos rfl, z4, w4]
      have neg : ∀ (v : Option (Int32 × Mem)), (n < 0 ∨ i < 0 ∨ j < 0) → (if n < 0 then some (-13, M) else if i < 0 then some (-13, M) else if j < 0 then some (-13, M) else v) = some (-13, M) := fun v h => by
        by_cases c1 : n < 0
        · rw [if_pos c1]
        · by_cases c2 : i < 0
          · rw [if_neg c1, if_pos c2]
          · rw [if_neg c1, if_neg c2, if_pos ((h.resolve_left c1).resolve_left c2)]
      by_cases cn : n < 0
      · have hp : fShelves_hasPart M (nI s) i n = some 0 := by
          simp only [fShelves_hasPart, cn, if_true]
          by_cases ci : i < 0 <;> simp [ci]
        exact ⟨-13, M, M, by dsimp only; rw [b1, hp]; rfl, by dsimp only; rw [b2 M rfl]; exact neg _ (Or.inl cn), hI0⟩
      by_cases ci : i < 0
      · exact ⟨-13, M, M, by dsimp only; rw [b1, part_neg M s i n ci]; rfl, by dsimp only; rw [b2 M rfl]; exact neg _ (Or.inr (Or.inl ci)), hI0⟩
      obtain ⟨m, hm, rfl⟩ := nI_of cn
      obtain ⟨a, ha, rfl⟩ := nI_of ci
      have hpi := part_n M s k a m hs z3 hk ha hm
      have li : (0 < lg_cmp ((nI a).toInt64 + (nI m).toInt64) (nI k).toInt64) ↔ k < a + m := by rw [lg_cmp_gt, nI_l ha, nI_l hm, nI_l (by omega), lN_add, pk_lLT (by omega) (by omega)]
      by_cases cj : j < 0
      · refine ⟨-13, M, M, ?_, by dsimp only; rw [b2 M rfl]; exact neg _ (Or.inr (Or.inr cj)), hI0⟩
        dsimp only
        rw [b1, hpi, Option.bind_some, part_neg M o j _ cj]
        by_cases c : a + m ≤ k <;> simp [c]
      obtain ⟨d, hd, rfl⟩ := nI_of cj
      have hpj := part_n M o k' d m ho w3 hk' hd hm
      have lj : (lg_cmp ((nI d).toInt64 + (nI m).toInt64) (nI k').toInt64 ≤ 0) ↔ d + m ≤ k' := by rw [lg_cmp_le, nI_l hd, nI_l hm, nI_l (by omega), lN_add, pk_lLE (by omega) (by omega)]
      by_cases c1 : a + m ≤ k
      case neg =>
        refine ⟨-13, M, M, ?_, ?_, hI0⟩
        · dsimp only; rw [b1, hpi, Option.bind_some, if_neg c1, if_pos rfl]
        · dsimp only; rw [b2 M rfl, if_neg cn, if_neg ci, if_neg cj, if_pos (li.mpr (by omega))]
      by_cases c2 : d + m ≤ k'
      case neg =>
        refine ⟨-13, M, M, ?_, ?_, hI0⟩
        · dsimp only; rw [b1, hpi, Option.bind_some, if_pos c1, if_neg o1, hpj, Option.bind_some, if_neg c2, if_neg (by decide)]
        · dsimp only; rw [b2 M rfl, if_neg cn, if_neg ci, if_neg cj, if_neg (fun z => by have := li.mp z; omega), if_neg (fun z => c2 (lj.mp z))]
      have hcp : cpL 60 60 (27 + s) (27 + o) M (nI a) (nI d) (nI m) = some (upL M (27 + o) (va_cpy (M.2.1 (27 + s)) (M.2.1 (27 + o)) a d m)) := by
        unfold cpL
        have q : ¬ (nI a < 0 ∨ nI d < 0 ∨ nI m < 0 ∨ 60 < ix (nI a) + ix (nI m) ∨ 60 < ix (nI d) + ix (nI m)) := by
          rw [ix_n ha, ix_n hd, ix_n hm]
          rintro (z | z | z | z | z)
          · exact ci z
          · exact cj z
          · exact cn z
          · omega
          · omega
        rw [if_neg q, ix_n ha, ix_n hd, ix_n hm]
      refine ⟨nI m, upL M (27 + o) (va_cpy (M.2.1 (27 + s)) (M.2.1 (27 + o)) a d m), upL (upL M (27 + o) (va_cpy (M.2.1 (27 + s)) (M.2.1 (27 + o)) a d m)) 90 (cpf (M.2.1 90) (60 * s + a) (60 * o + d) m), ?_, ?_, shelf_fin hN hT hD hIm hC hB hZ hL ((Keep.rf M).sub rfl rfl) rfl (fun q hq => ?_)⟩
      · dsimp only
        rw [b1, hpi, Option.bind_some, if_pos c1, if_neg o1, hpj, Option.bind_some, if_pos c2, if_pos o1, hcp]
        rfl
      · dsimp only
        rw [b2 (upL M (27 + o) (va_cpy (M.2.1 (27 + s)) (M.2.1 (27 + o)) a d m)) rfl, if_neg cn, if_neg ci, if_neg cj, if_neg (fun z => by have := li.mp z; omega), if_pos (lj.mpr c2), shift_i _ s a o d m hs ho (by omega) (by omega)]
        have ne : ¬ 90 = 27 + o := by omega
        rw [upL_2, if_neg ne]
      · have ne : ¬ 27 + q = 90 := by omega
        have v1 : (upL (upL M (27 + o) (va_cpy (M.2.1 (27 + s)) (M.2.1 (27 + o)) a d m)) 90 (cpf (M.2.1 90) (60 * s + a) (60 * o + d) m)).2.1 90 = cpf (M.2.1 90) (60 * s + a) (60 * o + d) m := by rw [upL_2, if_pos rfl]
        have v2 : (upL (upL M (27 + o) (va_cpy (M.2.1 (27 + s)) (M.2.1 (27 + o)) a d m)) 90 (cpf (M.2.1 90) (60 * s + a) (60 * o + d) m)).2.1 (27 + q) = if q = o then va_cpy (M.2.1 (27 + s)) (M.2.1 (27 + o)) a d m else M.2.1 (27 + q) := by
          rw [upL_2, if_neg ne, upL_2]
          have : (27 + q = 27 + o) ↔ q = o := by omega
          simp only [this]
        rw [v1, v2]
        rcases hS q hq with r | r | ⟨t', kk, r1, r2, r3, r4, r5, r6, r7⟩
        · exact Or.inl r
        · exact Or.inr (Or.inl r)
        · refine Or.inr (Or.inr ⟨t', kk, r1, r2, r3, r4, r5, r6, fun x hx => ?_⟩)
          by_cases qo : q = o
          · subst qo
            have et : t' = t := (nI_eq (by omega) (by omega)).mp (r3.symm.trans w1)
            subst et
            rw [if_pos rfl]
            unfold cpf va_cpy
            by_cases zz : d ≤ x ∧ x < d + m
            · have p1 : 60 * q + d ≤ 60 * q + x ∧ 60 * q + x < 60 * q + d + m := by omega
              have p2 : 60 * s + a + (60 * q + x - (60 * q + d)) = 60 * s + (a + (x - d)) := by omega
              rw [if_pos p1, if_pos zz, p2]
              exact z5 (a + (x - d)) (by omega)
            · have p1 : ¬ (60 * q + d ≤ 60 * q + x ∧ 60 * q + x < 60 * q + d + m) := by omega
              rw [if_neg p1, if_neg zz]
              exact r7 x hx
          · have p1 : ¬ (60 * o + d ≤ 60 * q + x ∧ 60 * q + x < 60 * o + d + m) := by omega
            rw [if_neg qo]
            unfold cpf
            rw [if_neg p1]
            exact r7 x hx
