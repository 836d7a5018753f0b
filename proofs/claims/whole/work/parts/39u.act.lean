/-! ACTS: the class and the reference side by side -/
def TR (n k t : Nat) (MC MM : Mem) : Prop := n < 50 ∧ MC.1 20 1 = nI t ∧ MM.1 66 34 = nI t ∧ MC.1 22 n = nI k ∧ MM.1 86 n = nI k ∧ ∀ i, i < t → i < 24 → MM.1 87 i = MC.1 21 i
def PcA (a i : Nat) : Prop := a = 21 ∨ (a = 20 ∧ i = 1)
def PmA (a i : Nat) : Prop := a = 87 ∨ (a = 66 ∧ i = 34)
def Lk (n k : Nat) (fc fm : Mem → Option (Int32 × Mem)) (c : Nat) : Prop := ∀ t MC MM, t + c ≤ 100 → TR n k t MC MM → ∃ v MC' MM' t', fc MC = some (v, MC') ∧ fm MM = some (v, MM') ∧ TR n k t' MC' MM' ∧ t' ≤ t + c ∧ Kp PcA MC MC' ∧ Kp PmA MM MM'
theorem Lk.congr {n k c : Nat} {fc fm fc' fm' : Mem → Option (Int32 × Mem)} (h : Lk n k fc fm c) (h1 : ∀ t MC MM, t + c ≤ 100 → TR n k t MC MM → fc' MC = fc MC) (h2 : ∀ t MC MM, t + c ≤ 100 → TR n k t MC MM → fm' MM = fm MM) : Lk n k fc' fm' c := by
  intro t MC MM ht hT
  rw [h1 t MC MM ht hT, h2 t MC MM ht hT]
  exact h t MC MM ht hT
theorem Lk.up {n k c c' : Nat} {fc fm : Mem → Option (Int32 × Mem)} (h : Lk n k fc fm c) (hc : c ≤ c') : Lk n k fc fm c' := by
  intro t MC MM ht hT
  obtain ⟨v, MC', MM', t', a1, a2, a3, a4, a5⟩ := h t MC MM (by omega) hT
  exact ⟨v, MC', MM', t', a1, a2, a3, by omega, a5⟩
theorem Lk.ret (n k : Nat) (v : Int32) : Lk n k (fun M => some (v, M)) (fun M => some (v, M)) 0 := fun t MC MM _ hT => ⟨v, MC, MM, t, rfl, rfl, hT, Nat.le_refl _, Kp.rf _ _, Kp.rf _ _⟩
theorem Lk.map {n k c : Nat} {fc fm : Mem → Option (Int32 × Mem)} (h : Lk n k fc fm c) (g : Int32 → Int32) : Lk n k (fun M => Option.bind (fc M) fun q => some (g q.1, q.2)) (fun M => Option.bind (fm M) fun q => some (g q.1, q.2)) c := by
  intro t MC MM ht hT
  obtain ⟨v, MC', MM', t', a1, a2, a3⟩ := h t MC MM ht hT
  exact ⟨g v, MC', MM', t', by dsimp only; rw [a1, Option.bind_some], by dsimp only; rw [a2, Option.bind_some], a3⟩
theorem Lk.seq {n k c1 c2 : Nat} {f1 g1 f2 g2 : Mem → Option (Int32 × Mem)} (h1 : Lk n k f1 g1 c1) (h2 : Lk n k f2 g2 c2) (g : Int32 → Int32 → Int32) : Lk n k (fun M => Option.bind (f1 M) fun p => Option.bind (f2 p.2) fun q => some (g p.1 q.1, q.2)) (fun M => Option.bind (g1 M) fun p => Option.bind (g2 p.2) fun q => some (g p.1 q.1, q.2)) (c1 + c2) := by
  intro t MC MM ht hT
  obtain ⟨v, MC', MM', t', a1, a2, a3, a4, a5, a6⟩ := h1 t MC MM (by omega) hT
  obtain ⟨w, MC2, MM2, t2, b1, b2, b3, b4, b5, b6⟩ := h2 t' MC' MM' (by omega) a3
  exact ⟨g v w, MC2, MM2, t2, by dsimp only; rw [a1, Option.bind_some, b1, Option.bind_some], by dsimp only; rw [a2, Option.bind_some, b2, Option.bind_some], b3, by omega, a5.tr b5, a6.tr b6⟩
theorem Lk.own {n k c : Nat} {F G : Mem → Int32 → Option (Int32 × Mem)} (h : Lk n k (fun M => F M (nI k)) (fun M => G M (nI k)) c) : Lk n k (fun M => Option.bind (rdI 50 22 M (nI n)) fun v => F M v) (fun M => Option.bind (rdI 50 86 M (nI n)) fun v => G M v) c := h.congr (fun t MC MM _ hT => by rw [rdI_n hT.1 (by omega), Option.bind_some, hT.2.2.2.1]) (fun t MC MM _ hT => by rw [rdI_n hT.1 (by omega), Option.bind_some, hT.2.2.2.2.1])
def ranC (M : Mem) (v : Int32) : Mem := if 24 ≤ M.1 20 1 then wI M 20 1 (M.1 20 1 + 1) else wI (wI M 21 (ix (M.1 20 1)) v) 20 1 (M.1 20 1 + 1)
def ranM (M : Mem) (v : Int32) : Mem := if 24 ≤ M.1 66 34 then wI M 66 34 (M.1 66 34 + 1) else wI (wI M 87 (ix (M.1 66 34)) v) 66 34 (M.1 66 34 + 1)
theorem ran_m {M : Mem} {t : Nat} (h : M.1 66 34 = nI t) (ht : t ≤ 100) (v : Int32) : fMd_ran M v = some (ranM M v) := by
  unfold fMd_ran ranM
  by_cases q : 24 ≤ M.1 66 34
  · rw [if_pos q, if_pos q]
  · rw [if_neg q, if_neg q]
    have t24 : t < 24 := by
      rw [h] at q
      rcases Nat.lt_or_ge t 24 with z | z
      · exact z
      · exact absurd ((leL (b := 24) 24 rfl (by omega) (by omega)).mpr z) q
    rw [h, stI_n t24 (by omega), Option.bind_some, ix_n (by omega)]
    have : (wI M 87 t v).1 66 34 = nI t := h
    rw [this]
theorem TR.ran {n k t : Nat} {MC MM : Mem} (h : TR n k t MC MM) (ht : t < 100) (v : Int32) : TR n k (t + 1) (ranC MC v) (ranM MM v) ∧ Kp PcA MC (ranC MC v) ∧ Kp PmA MM (ranM MM v) := by
  obtain ⟨h0, h1, h2, h3, h4, h5⟩ := h
  unfold ranC ranM
  rw [h1, h2]
  by_cases q : 24 ≤ t
  · have q' : (24 : Int32) ≤ nI t := (leL (b := 24) 24 rfl (by omega) (by omega)).mpr q
    rw [if_pos q', if_pos q', nI_1]
    exact ⟨⟨h0, rfl, rfl, h3, h4, fun i hi h24 => h5 i (by omega) h24⟩, Kp.w _ _ (by unfold PcA; omega), Kp.w _ _ (by unfold PmA; omega)⟩
  · have q' : ¬ (24 : Int32) ≤ nI t := fun z => q ((leL (b := 24) 24 rfl (by omega) (by omega)).mp z)
    rw [if_neg q', if_neg q', nI_1, ix_n (by omega)]
    refine ⟨⟨h0, rfl, rfl, h3, h4, fun i hi h24 => ?_⟩, (Kp.w _ _ (by unfold PcA; omega)).tr (Kp.w _ _ (by unfold PcA; omega)), (Kp.w _ _ (by unfold PmA; omega)).tr (Kp.w _ _ (by unfold PmA; omega))⟩
    show upd (MM.1 87) t v i = upd (MC.1 21) t v i
    rw [upd_a, upd_a]
    by_cases z : i = t
    · rw [if_pos z, if_pos z]
    · rw [if_neg z, if_neg z]; exact h5 i (by omega) h24
theorem Lk.ran {n k c : Nat} {fc fm : Mem → Option (Int32 × Mem)} (h : Lk n k fc fm c) (v : Int32) : Lk n k (fun M => fc (ranC M v)) (fun M => Option.bind (fMd_ran M v) fm) (c + 1) := by
  intro t MC MM ht hT
  obtain ⟨T1, K1, K2⟩ := hT.ran (by omega) v
  obtain ⟨w, MC', MM', t', a1, a2, a3, a4, a5, a6⟩ := h (t + 1) _ _ (by omega) T1
  exact ⟨w, MC', MM', t', a1, by dsimp only; rw [ran_m hT.2.2.1 (by omega), Option.bind_some]; exact a2, a3, by omega, K1.tr a5, K2.tr a6⟩
/-- where an act of a KIND is found -/
def nxt (a q : Nat) : Nat := match q, a with
  | 0, 1 => 1 | 0, 4 => 1 | 0, 6 => 6 | 0, 7 => 1
  | 1, 2 => 2 | 1, 3 => 3 | 1, 5 => 3 | 1, 7 => 7
  | 2, 3 => 3 | 2, 4 => 4 | 2, 5 => 3 | 2, 7 => 4
  | 3, 5 => 5 | 3, 7 => 7
  | _, _ => 0
theorem c4 {P : Nat → Prop} (h0 : P 0) (h1 : P 1) (h2 : P 2) (h3 : P 3) : ∀ a, a < 4 → P a := by
  intro a ha
  have e : a = 0 ∨ a = 1 ∨ a = 2 ∨ a = 3 := by omega
  rcases e with rfl | rfl | rfl | rfl <;> assumption
theorem L6_ok (g1 : Mem → Int32 → Int32 → Int32 → Int32 → Int32 → Option (Int32 × Mem)) (g2 g3 : Mem → Int32 → Int32 → Int32 → Int32 → Option (Int32 × Mem)) (g4 : Mem → Int32 → Int32 → Int32 → Int32 → Int32 → Option (Int32 × Mem)) (M : Mem) : ∀ a, a < 8 → ∀ q, q < 4 → fBodies_from_L6 g1 g2 g3 g4 FU M (nI q) (nI a) 0 = some (nI (nxt a q)) := c8 (c4 rfl rfl rfl rfl) (c4 rfl rfl rfl rfl) (c4 rfl rfl rfl rfl) (c4 rfl rfl rfl rfl) (c4 rfl rfl rfl rfl) (c4 rfl rfl rfl rfl) (c4 rfl rfl rfl rfl) (c4 rfl rfl rfl rfl)
theorem nxt_lt : ∀ a, a < 8 → ∀ q, q < 4 → nxt a q < 8 := by decide
theorem tb_ok : ∀ a, a < 8 → ∀ q, q < 4 → rdT 32 tbO (4 * nI a + nI q) = some (tbO (4 * a + q)) := c8 (c4 rfl rfl rfl rfl) (c4 rfl rfl rfl rfl) (c4 rfl rfl rfl rfl) (c4 rfl rfl rfl rfl) (c4 rfl rfl rfl rfl) (c4 rfl rfl rfl rfl) (c4 rfl rfl rfl rfl) (c4 rfl rfl rfl rfl)
theorem ta_ok : ∀ a, a < 8 → rdT 8 tbA (nI a) = some (tbA a) := c8 rfl rfl rfl rfl rfl rfl rfl rfl
abbrev cFrom (F : Nat) := (rec_fBodies_from F).1
abbrev cShoe (F : Nat) := (rec_fBodies_from F).2.1
abbrev cOwn (F : Nat) := (rec_fBodies_from F).2.2.1
abbrev cKind (F : Nat) := (rec_fBodies_from F).2.2.2
theorem from_e {M : Mem} {t : Nat} (ht : M.1 20 1 = nI t) (h100 : t < 101) (F a q d : Nat) (ha : a < 8) (hq : q < 4) (hd : d ≤ 20) (n x : Int32) : cFrom (F + 1) M (nI a) (nI q) n x (nI d) = if nxt a q = 0 then Option.bind (cShoe F (ranC M (tbO q)) (tbO q) n x (nI (d + 1))) fun r => some (r.1, r.2) else Option.bind (cKind F (ranC M (tbO (4 * nxt a q + q))) (tbO (4 * nxt a q + q)) (tbA (nxt a q)) n x (nI (d + 1))) fun r => some (r.1, r.2) := by
  show fBodies_from_F (cFrom F) (cShoe F) (cOwn F) (cKind F) M (nI a) (nI q) n x (nI d) = _
  have hn := nxt_lt a ha q hq
  have h0 : ¬ nI (nxt a q) < 0 := nI_pos (by omega)
  have h20 : nI d ≤ 20 := (leR (b := 20) 20 rfl (by omega) (by omega)).mpr hd
  rw [fBodies_from_F, L6_ok _ _ _ _ M a ha q hq, Option.bind_some, fBodies_from_J45, if_neg h0, if_pos h20, tb_ok _ hn q hq, Option.bind_some]
  have j : ∀ M' : Mem, M'.1 20 1 = nI t → fBodies_from_J91 (cFrom F) (cShoe F) (cOwn F) (cKind F) M' n x (nI d) (nI (nxt a q)) (tbO (4 * nxt a q + q)) = if nxt a q = 0 then Option.bind (cShoe F (wI M' 20 1 (nI t + 1)) (tbO (4 * nxt a q + q)) n x (nI (d + 1))) fun r => some (r.1, r.2) else Option.bind (cKind F (wI M' 20 1 (nI t + 1)) (tbO (4 * nxt a q + q)) (tbA (nxt a q)) n x (nI (d + 1))) fun r => some (r.1, r.2) := fun M' hM => by
    rw [fBodies_from_J91, ta_ok _ hn, Option.bind_some, hM, nI_1 d]
    by_cases z : nxt a q = 0
    · rw [if_pos z, if_neg (fun w => w (by rw [z]; rfl))]
    · rw [if_neg z, if_pos (fun w => z ((eqR (b := 0) 0 rfl (by omega) (by omega)).mp w))]
  have e0 : nxt a q = 0 → tbO (4 * nxt a q + q) = tbO q := fun z => by rw [z, Nat.mul_zero, Nat.zero_add]
  unfold ranC
  rw [ht]
  by_cases y : (24 : Int32) ≤ nI t
  · rw [if_pos y, if_pos y, if_pos y, j M ht]
    by_cases z : nxt a q = 0
    · rw [if_pos z, if_pos z, e0 z]
    · rw [if_neg z, if_neg z]
  · have t24 : t < 24 := by
      rcases Nat.lt_or_ge t 24 with z | z
      · exact z
      · exact absurd ((leL (b := 24) 24 rfl (by omega) (by omega)).mpr z) y
    rw [if_neg y, if_neg y, if_neg y, stI_n t24 (by omega), Option.bind_some, j (wI M 21 t _) ht, ix_n (by omega)]
    by_cases z : nxt a q = 0
    · rw [if_pos z, if_pos z, e0 z]
    · rw [if_neg z, if_neg z]
/-- both do an act of a KIND alike -/
def Alike (n k q F d m a c : Nat) (fm : Nat → Mem → Int32 → Int32 → Int32 → Option (Int32 × Mem)) : Prop := ∀ x : Int32, Lk n k (fun M => cFrom F M (nI a) (nI q) (nI n) x (nI d)) (fun M => fm m M (nI n) (nI a) x) c
theorem bind_id {o : Option (Int32 × Mem)} : (Option.bind o fun r => some (r.1, r.2)) = o := by cases o <;> rfl
/-- an act at a SHOE's own body, or at a KIND's own -/
theorem alike_shoe {n k q F d m c : Nat} {fm : Nat → Mem → Int32 → Int32 → Int32 → Option (Int32 × Mem)} (hq : q < 4) (hd : d ≤ 20) {rc rm : Int32 → Mem → Option (Int32 × Mem)} (hc : ∀ x M, cShoe F M (tbO q) (nI n) x (nI (d + 1)) = rc x M) (hm : ∀ x M, fm m M (nI n) (nI 0) x = Option.bind (fMd_ran M (tbO q)) (rm x)) (h : ∀ x, Lk n k (rc x) (rm x) c) : Alike n k q (F + 1) d m 0 (c + 1) fm := fun x => ((h x).ran (tbO q)).congr (fun t MC MM ht hT => by
    have e : nxt 0 q = 0 := by
      have : q = 0 ∨ q = 1 ∨ q = 2 ∨ q = 3 := by omega
      rcases this with rfl | rfl | rfl | rfl <;> rfl
    rw [from_e hT.2.1 (by omega) F 0 q d (by omega) hq hd, if_pos e, bind_id, hc]) (fun t MC MM _ _ => hm x MM)
theorem alike_kind {n k q F d m a c : Nat} {fm : Nat → Mem → Int32 → Int32 → Int32 → Option (Int32 × Mem)} (ha : a < 8) (hq : q < 4) (hd : d ≤ 20) (hn : nxt a q = a) (h0 : a ≠ 0) {rc rm : Int32 → Mem → Option (Int32 × Mem)} (hc : ∀ x M, cKind F M (tbO (4 * a + q)) (tbA a) (nI n) x (nI (d + 1)) = rc x M) (hm : ∀ x M, fm m M (nI n) (nI a) x = Option.bind (fMd_ran M (tbO (4 * a + q))) (rm x)) (h : ∀ x, Lk n k (rc x) (rm x) c) : Alike n k q (F + 1) d m a (c + 1) fm := fun x => ((h x).ran (tbO (4 * a + q))).congr (fun t MC MM ht hT => by
    rw [from_e hT.2.1 (by omega) F a q d ha hq hd, hn, if_neg h0, bind_id, hc]) (fun t MC MM _ _ => hm x MM)
theorem alike_pass {n k q F d m a a' c : Nat} {fm : Nat → Mem → Int32 → Int32 → Int32 → Option (Int32 × Mem)} (ha : a < 8) (ha' : a' < 8) (hq : q < 4) (hd : d ≤ 20) (hn : nxt a q = nxt a' q) (hm : ∀ x M, fm (m + 1) M (nI n) (nI a) x = Option.bind (fm m M (nI n) (nI a') x) fun r => some (r.1, r.2)) (h : Alike n k q (F + 1) d m a' c fm) : Alike n k q (F + 1) d (m + 1) a c fm := fun x => (h x).congr (fun t MC MM ht hT => by
    rw [from_e hT.2.1 (by omega) F a q d ha hq hd, from_e hT.2.1 (by omega) F a' q d ha' hq hd, hn]) (fun t MC MM _ _ => by rw [hm, bind_id])
abbrev mRuns (m : Nat) := rec_fMd_runsBy m
theorem alike_runs (n k : Nat) (F d m : Nat) (hd : d ≤ 15) : ∀ a, a < 8 → Alike n k 0 (F + 5) d (m + 5) a 2 mRuns := by
  have z0 : ∀ F d m, d ≤ 18 → Alike n k 0 (F + 2) d (m + 1) 0 1 mRuns := fun F d m hd => alike_shoe (F := F + 1) (by omega) (by omega) (rc := fun x M => some (x + nI n, M)) (rm := fun x M => some (x + nI n, M)) (fun x M => rfl) (fun x M => rfl) (fun x => Lk.ret n k _)
  have up : ∀ {F d m a c c' : Nat}, Alike n k 0 F d m a c mRuns → c ≤ c' → Alike n k 0 F d m a c' mRuns := fun h hc x => (h x).up hc
  have z1 : ∀ F d m, d ≤ 17 → Alike n k 0 (F + 4) d (m + 2) 1 2 mRuns := fun F d m hd => alike_kind (F := F + 3) (by omega) (by omega) (by omega) rfl (by omega) (rc := fun x M => Option.bind (cFrom (F + 2) M 0 0 (nI n) x (nI (d + 1))) fun q2 => some (q2.1 + 3, q2.2)) (rm := fun x M => Option.bind (rec_fMd_runsBy (m + 1) M (nI n) 0 x) fun q5 => some (q5.1 + 3, q5.2)) (fun x M => rfl) (fun x M => rfl) (fun x => (z0 F (d + 1) m (by omega) x).map (fun v => v + 3))
  have z6 : ∀ F d m, d ≤ 17 → Alike n k 0 (F + 4) d (m + 2) 6 2 mRuns := fun F d m hd => alike_kind (F := F + 3) (by omega) (by omega) (by omega) rfl (by omega) (rc := fun x M => Option.bind (cFrom (F + 2) M 0 0 (nI n) x (nI (d + 1))) fun q2 => some (q2.1 * 2, q2.2)) (rm := fun x M => Option.bind (rec_fMd_runsBy (m + 1) M (nI n) 0 x) fun q5 => some (q5.1 * 2, q5.2)) (fun x M => rfl) (fun x M => rfl) (fun x => (z0 F (d + 1) m (by omega) x).map (fun v => v * 2))
  have z2 : ∀ F d m, d ≤ 17 → Alike n k 0 (F + 2) d (m + 2) 2 1 mRuns := fun F d m hd => alike_pass (F := F + 1) (m := m + 1) (a' := 0) (by omega) (by omega) (by omega) (by omega) rfl (fun x M => rfl) (z0 F d m (by omega))
  have z3 : ∀ F d m, d ≤ 17 → Alike n k 0 (F + 2) d (m + 3) 3 1 mRuns := fun F d m hd => alike_pass (F := F + 1) (m := m + 2) (a' := 2) (by omega) (by omega) (by omega) (by omega) rfl (fun x M => rfl) (z2 F d m (by omega))
  have z5 : ∀ F d m, d ≤ 17 → Alike n k 0 (F + 2) d (m + 4) 5 1 mRuns := fun F d m hd => alike_pass (F := F + 1) (m := m + 3) (a' := 3) (by omega) (by omega) (by omega) (by omega) rfl (fun x M => rfl) (z3 F d m (by omega))
  have z4 : ∀ F d m, d ≤ 17 → Alike n k 0 (F + 4) d (m + 3) 4 2 mRuns := fun F d m hd => alike_pass (F := F + 3) (m := m + 2) (a' := 1) (by omega) (by omega) (by omega) (by omega) rfl (fun x M => rfl) (z1 F d m (by omega))
  have z7 : ∀ F d m, d ≤ 17 → Alike n k 0 (F + 4) d (m + 4) 7 2 mRuns := fun F d m hd => alike_pass (F := F + 3) (m := m + 3) (a' := 4) (by omega) (by omega) (by omega) (by omega) rfl (fun x M => rfl) (z4 F d m (by omega))
  exact c8 (up (z0 (F + 3) d (m + 4) (by omega)) (by omega)) (z1 (F + 1) d (m + 3) (by omega)) (up (z2 (F + 3) d (m + 3) (by omega)) (by omega)) (up (z3 (F + 3) d (m + 2) (by omega)) (by omega)) (z4 (F + 1) d (m + 2) (by omega)) (up (z5 (F + 3) d (m + 1) (by omega)) (by omega)) (z6 (F + 1) d (m + 3) (by omega)) (z7 (F + 1) d (m + 1) (by omega))

abbrev mDrinks (m : Nat) := rec_fMd_drinksBy m
theorem own_alike {n k q F d m c : Nat} {fm : Nat → Mem → Int32 → Int32 → Int32 → Option (Int32 × Mem)} (h : Alike n k q F d m k c fm) (x : Int32) : Lk n k (fun M => cOwn (F + 1) M (nI q) (nI n) x (nI d)) (fun M => Option.bind (rdI 50 86 M (nI n)) fun v => fm m M (nI n) v x) c := (Lk.own (F := fun M v => cFrom F M v (nI q) (nI n) x (nI d)) (G := fun M v => fm m M (nI n) v x) (h x)).congr (fun t MC MM _ _ => by
    show Option.bind (rdI 50 22 MC (nI n)) (fun v1 => Option.bind (cFrom F MC v1 (nI q) (nI n) x (nI d)) fun q2 => some (q2.1, q2.2)) = _
    simp only [bind_id]) (fun _ _ _ _ _ => rfl)
theorem Alike.up {n k q F d m a c c' : Nat} {fm : Nat → Mem → Int32 → Int32 → Int32 → Option (Int32 × Mem)} (h : Alike n k q F d m a c fm) (hc : c ≤ c') : Alike n k q F d m a c' fm := fun x => (h x).up hc
theorem alike_drinks (n k : Nat) (hk : k < 8) (F d m : Nat) (hd : d ≤ 13) : ∀ a, a < 8 → Alike n k 2 (F + 8) d (m + 5) a 4 mDrinks := by
  have z0 : ∀ F d m, d ≤ 18 → Alike n k 2 (F + 2) d (m + 1) 0 1 mDrinks := fun F d m hd => alike_shoe (F := F + 1) (by omega) (by omega) (rc := fun x M => some (x ^^^ nI n, M)) (rm := fun x M => some (x ^^^ nI n, M)) (fun x M => rfl) (fun x M => rfl) (fun x => Lk.ret n k _)
  have z1 : ∀ F d m, d ≤ 17 → Alike n k 2 (F + 2) d (m + 2) 1 1 mDrinks := fun F d m hd => alike_pass (F := F + 1) (m := m + 1) (a' := 0) (by omega) (by omega) (by omega) (by omega) rfl (fun x M => rfl) (z0 F d m (by omega))
  have z2 : ∀ F d m, d ≤ 17 → Alike n k 2 (F + 2) d (m + 2) 2 1 mDrinks := fun F d m hd => alike_pass (F := F + 1) (m := m + 1) (a' := 0) (by omega) (by omega) (by omega) (by omega) rfl (fun x M => rfl) (z0 F d m (by omega))
  have z6 : ∀ F d m, d ≤ 17 → Alike n k 2 (F + 2) d (m + 2) 6 1 mDrinks := fun F d m hd => alike_pass (F := F + 1) (m := m + 1) (a' := 0) (by omega) (by omega) (by omega) (by omega) rfl (fun x M => rfl) (z0 F d m (by omega))
  have z3 : ∀ F d m, d ≤ 16 → Alike n k 2 (F + 4) d (m + 3) 3 2 mDrinks := fun F d m hd => alike_kind (F := F + 3) (by omega) (by omega) (by omega) rfl (by omega) (rc := fun x M => Option.bind (cFrom (F + 2) M 2 2 (nI n) x (nI (d + 1))) fun q2 => some (q2.1 * 3, q2.2)) (rm := fun x M => Option.bind (rec_fMd_drinksBy (m + 2) M (nI n) 2 x) fun q5 => some (q5.1 * 3, q5.2)) (fun x M => rfl) (fun x M => rfl) (fun x => (z2 F (d + 1) m (by omega) x).map (fun v => v * 3))
  have z5 : ∀ F d m, d ≤ 16 → Alike n k 2 (F + 4) d (m + 4) 5 2 mDrinks := fun F d m hd => alike_pass (F := F + 3) (m := m + 3) (a' := 3) (by omega) (by omega) (by omega) (by omega) rfl (fun x M => rfl) (z3 F d m (by omega))
  have z4 : ∀ F d m, d ≤ 13 → Alike n k 2 (F + 8) d (m + 3) 4 4 mDrinks := fun F d m hd => alike_kind (F := F + 7) (by omega) (by omega) (by omega) rfl (by omega) (rc := fun x M => Option.bind (cFrom (F + 6) M 1 2 (nI n) x (nI (d + 1))) fun p => Option.bind (cOwn (F + 6) p.2 0 (nI n) 2 (nI (d + 1))) fun q => some (p.1 - q.1, q.2)) (rm := fun x M => Option.bind (rec_fMd_drinksBy (m + 2) M (nI n) 1 x) fun p => Option.bind (Option.bind (rdI 50 86 p.2 (nI n)) fun v => fMd_runsBy p.2 (nI n) v 2) fun q => some (p.1 - q.1, q.2)) (fun x M => rfl) (fun x M => by simp only [Option.bind_assoc]; rfl) (fun x => (z1 (F + 4) (d + 1) m (by omega) x).seq (own_alike (alike_runs n k F (d + 1) 95 (by omega) k hk) 2) (fun v w => v - w))
  have z7 : ∀ F d m, d ≤ 13 → Alike n k 2 (F + 8) d (m + 4) 7 4 mDrinks := fun F d m hd => alike_pass (F := F + 7) (m := m + 3) (a' := 4) (by omega) (by omega) (by omega) (by omega) rfl (fun x M => rfl) (z4 F d m (by omega))
  exact c8 ((z0 (F + 6) d (m + 4) (by omega)).up (by omega)) ((z1 (F + 6) d (m + 3) (by omega)).up (by omega)) ((z2 (F + 6) d (m + 3) (by omega)).up (by omega)) ((z3 (F + 4) d (m + 2) (by omega)).up (by omega)) (z4 F d (m + 2) (by omega)) ((z5 (F + 4) d (m + 1) (by omega)).up (by omega)) ((z6 (F + 6) d (m + 3) (by omega)).up (by omega)) (z7 F d (m + 1) (by omega))
abbrev mHolds (m : Nat) := rec_fMd_holdsBy m
theorem alike_holds (n k : Nat) (hk : k < 8) (F d m : Nat) (hd : d ≤ 10) : ∀ a, a < 8 → Alike n k 1 (F + 12) d (m + 5) a 8 mHolds := by
  have z0 : ∀ F d m, d ≤ 14 → Alike n k 1 (F + 8) d (m + 1) 0 3 mHolds := fun F d m hd => alike_shoe (F := F + 7) (by omega) (by omega) (rc := fun x M => Option.bind (cOwn (F + 6) M 0 (nI n) x (nI (d + 1))) fun q => some (q.1 * 2, q.2)) (rm := fun x M => Option.bind (Option.bind (rdI 50 86 M (nI n)) fun v => fMd_runsBy M (nI n) v x) fun q => some (q.1 * 2, q.2)) (fun x M => rfl) (fun x M => by simp only [Option.bind_assoc]; rfl) (fun x => (own_alike (alike_runs n k F (d + 1) 95 (by omega) k hk) x).map (fun v => v * 2))
  have z1 : ∀ F d m, d ≤ 14 → Alike n k 1 (F + 8) d (m + 2) 1 3 mHolds := fun F d m hd => alike_pass (F := F + 7) (m := m + 1) (a' := 0) (by omega) (by omega) (by omega) (by omega) rfl (fun x M => rfl) (z0 F d m (by omega))
  have z2 : ∀ F d m, d ≤ 13 → Alike n k 1 (F + 10) d (m + 2) 2 4 mHolds := fun F d m hd => alike_kind (F := F + 9) (by omega) (by omega) (by omega) rfl (by omega) (rc := fun x M => Option.bind (cFrom (F + 8) M 0 1 (nI n) x (nI (d + 1))) fun q2 => some (-q2.1, q2.2)) (rm := fun x M => Option.bind (rec_fMd_holdsBy (m + 1) M (nI n) 0 x) fun q5 => some (-q5.1, q5.2)) (fun x M => rfl) (fun x M => rfl) (fun x => (z0 F (d + 1) m (by omega) x).map (fun v => -v))
  have z3 : ∀ F d m, d ≤ 12 → Alike n k 1 (F + 12) d (m + 3) 3 5 mHolds := fun F d m hd => alike_kind (F := F + 11) (by omega) (by omega) (by omega) rfl (by omega) (rc := fun x M => Option.bind (cFrom (F + 10) M 2 1 (nI n) (x + 1) (nI (d + 1))) fun q2 => some (q2.1, q2.2)) (rm := fun x M => Option.bind (rec_fMd_holdsBy (m + 2) M (nI n) 2 (x + 1)) fun q5 => some (q5.1, q5.2)) (fun x M => rfl) (fun x M => rfl) (fun x => (z2 F (d + 1) m (by omega) (x + 1)).map (fun v => v))
  have z4 : ∀ F d m, d ≤ 14 → Alike n k 1 (F + 8) d (m + 3) 4 3 mHolds := fun F d m hd => alike_pass (F := F + 7) (m := m + 2) (a' := 1) (by omega) (by omega) (by omega) (by omega) rfl (fun x M => rfl) (z1 F d m (by omega))
  have z5 : ∀ F d m, d ≤ 12 → Alike n k 1 (F + 12) d (m + 4) 5 5 mHolds := fun F d m hd => alike_pass (F := F + 11) (m := m + 3) (a' := 3) (by omega) (by omega) (by omega) (by omega) rfl (fun x M => rfl) (z3 F d m (by omega))
  have z6 : ∀ F d m, d ≤ 14 → Alike n k 1 (F + 8) d (m + 2) 6 3 mHolds := fun F d m hd => alike_pass (F := F + 7) (m := m + 1) (a' := 0) (by omega) (by omega) (by omega) (by omega) rfl (fun x M => rfl) (z0 F d m (by omega))
  have z7 : ∀ F d m, d ≤ 12 → Alike n k 1 (F + 11) d (m + 4) 7 8 mHolds := fun F d m hd => alike_kind (F := F + 10) (by omega) (by omega) (by omega) rfl (by omega) (rc := fun x M => Option.bind (cFrom (F + 9) M 4 1 (nI n) x (nI (d + 1))) fun p => Option.bind (cOwn (F + 9) p.2 2 (nI n) 2 (nI (d + 1))) fun q => some (p.1 + q.1, q.2)) (rm := fun x M => Option.bind (rec_fMd_holdsBy (m + 3) M (nI n) 4 x) fun p => Option.bind (Option.bind (rdI 50 86 p.2 (nI n)) fun v => fMd_drinksBy p.2 (nI n) v 2) fun q => some (p.1 + q.1, q.2)) (fun x M => rfl) (fun x M => by simp only [Option.bind_assoc]; rfl) (fun x => (z4 (F + 1) (d + 1) m (by omega) x).seq (own_alike (alike_drinks n k hk F (d + 1) 95 (by omega) k hk) 2) (fun v w => v + w))
  exact c8 ((z0 (F + 4) d (m + 4) (by omega)).up (by omega)) ((z1 (F + 4) d (m + 3) (by omega)).up (by omega)) ((z2 (F + 2) d (m + 3) (by omega)).up (by omega)) ((z3 F d (m + 2) (by omega)).up (by omega)) ((z4 (F + 4) d (m + 2) (by omega)).up (by omega)) ((z5 F d (m + 1) (by omega)).up (by omega)) ((z6 (F + 4) d (m + 3) (by omega)).up (by omega)) (z7 (F + 1) d (m + 1) (by omega))
abbrev mTells (m : Nat) := rec_fMd_tells m
theorem alike_tells (n k : Nat) (hk : k < 8) (F d m : Nat) (hd : d ≤ 7) : ∀ a, a < 8 → Alike n k 3 (F + 17) d (m + 5) a 14 mTells := by
  have z0 : ∀ F d m, d ≤ 9 → Alike n k 3 (F + 15) d (m + 1) 0 13 mTells := fun F d m hd => alike_shoe (F := F + 14) (by omega) (by omega) (rc := fun x M => Option.bind (cOwn (F + 13) M 1 (nI n) x (nI (d + 1))) fun p => Option.bind (cOwn (F + 13) p.2 2 (nI n) 1 (nI (d + 1))) fun q => some (p.1 - q.1, q.2)) (rm := fun x M => Option.bind (Option.bind (rdI 50 86 M (nI n)) fun v => fMd_holdsBy M (nI n) v x) fun p => Option.bind (Option.bind (rdI 50 86 p.2 (nI n)) fun v => fMd_drinksBy p.2 (nI n) v 1) fun q => some (p.1 - q.1, q.2)) (fun x M => rfl) (fun x M => by simp only [Option.bind_assoc]; rfl) (fun x => (own_alike (alike_holds n k hk F (d + 1) 95 (by omega) k hk) x).seq (own_alike (alike_drinks n k hk (F + 4) (d + 1) 95 (by omega) k hk) 1) (fun v w => v - w))
  have z1 : ∀ F d m, d ≤ 9 → Alike n k 3 (F + 15) d (m + 2) 1 13 mTells := fun F d m hd => alike_pass (F := F + 14) (m := m + 1) (a' := 0) (by omega) (by omega) (by omega) (by omega) rfl (fun x M => rfl) (z0 F d m (by omega))
  have z2 : ∀ F d m, d ≤ 9 → Alike n k 3 (F + 15) d (m + 2) 2 13 mTells := fun F d m hd => alike_pass (F := F + 14) (m := m + 1) (a' := 0) (by omega) (by omega) (by omega) (by omega) rfl (fun x M => rfl) (z0 F d m (by omega))
  have z6 : ∀ F d m, d ≤ 9 → Alike n k 3 (F + 15) d (m + 2) 6 13 mTells := fun F d m hd => alike_pass (F := F + 14) (m := m + 1) (a' := 0) (by omega) (by omega) (by omega) (by omega) rfl (fun x M => rfl) (z0 F d m (by omega))
  have z3 : ∀ F d m, d ≤ 9 → Alike n k 3 (F + 15) d (m + 3) 3 13 mTells := fun F d m hd => alike_pass (F := F + 14) (m := m + 2) (a' := 2) (by omega) (by omega) (by omega) (by omega) rfl (fun x M => rfl) (z2 F d m (by omega))
  have z4 : ∀ F d m, d ≤ 9 → Alike n k 3 (F + 15) d (m + 3) 4 13 mTells := fun F d m hd => alike_pass (F := F + 14) (m := m + 2) (a' := 1) (by omega) (by omega) (by omega) (by omega) rfl (fun x M => rfl) (z1 F d m (by omega))
  have z5 : ∀ F d m, d ≤ 8 → Alike n k 3 (F + 17) d (m + 4) 5 14 mTells := fun F d m hd => alike_kind (F := F + 16) (by omega) (by omega) (by omega) rfl (by omega) (rc := fun x M => Option.bind (cFrom (F + 15) M 3 3 (nI n) x (nI (d + 1))) fun q2 => some (q2.1 ^^^ 5, q2.2)) (rm := fun x M => Option.bind (rec_fMd_tells (m + 3) M (nI n) 3 x) fun q5 => some (q5.1 ^^^ 5, q5.2)) (fun x M => rfl) (fun x M => rfl) (fun x => (z3 F (d + 1) m (by omega) x).map (fun v => v ^^^ 5))
  have z7 : ∀ F d m, d ≤ 8 → Alike n k 3 (F + 17) d (m + 4) 7 14 mTells := fun F d m hd => alike_kind (F := F + 16) (by omega) (by omega) (by omega) rfl (by omega) (rc := fun x M => Option.bind (cFrom (F + 15) M 4 3 (nI n) x (nI (d + 1))) fun q2 => some (q2.1 - 1, q2.2)) (rm := fun x M => Option.bind (rec_fMd_tells (m + 3) M (nI n) 4 x) fun q5 => some (q5.1 - 1, q5.2)) (fun x M => rfl) (fun x M => rfl) (fun x => (z4 F (d + 1) m (by omega) x).map (fun v => v - 1))
  exact c8 ((z0 (F + 2) d (m + 4) (by omega)).up (by omega)) ((z1 (F + 2) d (m + 3) (by omega)).up (by omega)) ((z2 (F + 2) d (m + 3) (by omega)).up (by omega)) ((z3 (F + 2) d (m + 2) (by omega)).up (by omega)) ((z4 (F + 2) d (m + 2) (by omega)).up (by omega)) ((z5 F d (m + 1) (by omega)).up (by omega)) ((z6 (F + 2) d (m + 3) (by omega)).up (by omega)) (z7 F d (m + 1) (by omega))
theorem act_fin {M M2 : Mem} {p n n' : Nat} (hN : IvN p M) (hT : IvT M) (hD : IvD M) (hIm : IvI p M) (hC : IvC p M) (hS : IvS n M) (hZ : IvZ M) (hL : IvL M) (K : Kp (fun a i => PcA a i ∨ PmA a i) M M2) (hn : n' = n) (hB : IvB n' M2) : Inv M2 := by
  subst hn
  have K' : Keep [20, 21, 87] [34] M M2 := ⟨fun a ha h6 => K.f (fun i h => by
    have : a ≠ 20 ∧ a ≠ 21 ∧ a ≠ 87 := by simpa using ha
    unfold PcA PmA at h
    omega), fun i hi => K.1 66 i (fun h => by
    have : i ≠ 34 := by simpa using hi
    unfold PcA PmA at h
    omega), K.2⟩
  exact ⟨p, n', hN.kp K' ⟨rfl, rfl, rfl, rfl, rfl, rfl, rfl, rfl, rfl, rfl, rfl, rfl, rfl, rfl, rfl, rfl⟩, hT.kp K' ⟨rfl, rfl, rfl, rfl⟩, hD.kp K' ⟨rfl, rfl⟩, hIm.kp K' ⟨rfl, rfl, rfl, rfl, rfl, rfl, rfl, rfl, rfl, rfl, rfl⟩, hC.kp K' ⟨rfl, rfl, rfl, rfl, rfl, rfl, rfl, rfl, rfl⟩, hB, hS.kp K' ⟨rfl, rfl, rfl, rfl⟩, hZ.kp K' ⟨rfl, rfl, rfl, rfl⟩, hL.kp K' ⟨rfl, rfl, rfl, rfl, rfl, rfl, rfl, rfl, rfl⟩⟩
/-- the class's act, then the reference's, on one memory -/
theorem act_two {n i k q c : Nat} {x : Int32} {M : Mem} {fm : Mem → Int32 → Int32 → Int32 → Option (Int32 × Mem)} (hn : n ≤ 50) (hi : i < n) (h22 : M.1 22 i = nI k) (h86 : M.1 86 i = nI k) (hc : c ≤ 100) (h : Lk i k (fun M => cFrom 100 M (nI k) (nI q) (nI i) x 0) (fun M => fm M (nI i) (nI k) x) c) : ∃ v M1 M2 t, cFrom 100 (wI M 20 1 0) (nI k) (nI q) (nI i) x 0 = some (v, M1) ∧ fm (wI M1 66 34 0) (nI i) (nI k) x = some (v, M2) ∧ t ≤ 100 ∧ M2.1 20 1 = nI t ∧ M2.1 66 34 = nI t ∧ (∀ j, j < t → j < 24 → M2.1 87 j = M2.1 21 j) ∧ Kp PcA M M1 ∧ Kp (fun a i => PcA a i ∨ PmA a i) M M2 := by
  have T0 : ∀ M', M'.1 86 i = nI k → TR i k 0 (wI M 20 1 0) (wI M' 66 34 0) := fun M' h6 => ⟨by omega, rfl, rfl, h22, h6, fun j hj _ => absurd hj (by omega)⟩
  obtain ⟨v, M1, -, -, e1, -, -, -, K1, -⟩ := h 0 _ _ (by omega) (T0 M h86)
  have h86' : M1.1 86 i = nI k := (K1.1 86 i (by unfold PcA; omega)).trans h86
  obtain ⟨v', M1', M2, t, f1, f2, f3, f4, f5, f6⟩ := h 0 _ _ (by omega) (T0 M1 h86')
  obtain ⟨rfl, rfl⟩ : v = v' ∧ M1 = M1' := by
    have := e1.symm.trans f1
    injection this with this
    exact Prod.mk.inj this
  have K0 : Kp PcA M M1 := (Kp.w (P := PcA) M 0 (a := 20) (i := 1) (by unfold PcA; omega)).tr K1
  have Km : Kp PmA M1 M2 := (Kp.w (P := PmA) M1 0 (a := 66) (i := 34) (by unfold PmA; omega)).tr f6
  refine ⟨v, M1, M2, t, e1, f2, by omega, ?_, f3.2.2.1, fun j hj h24 => ?_, K0, (K0.mono (fun a i h => Or.inl h)).tr (Km.mono (fun a i h => Or.inr h))⟩
  · rw [Km.1 20 1 (by unfold PmA; omega)]; exact f3.2.1
  · rw [Km.1 21 j (by unfold PmA; omega)]; exact f3.2.2.2.2.2 j hj h24
theorem s_act (x1 x2 x3 : Int32) : Sim (fun M => fSh_act M x1 x2 x3) (fun M => fMd_act M x1 x2 x3) := by
  rintro M ⟨p, n, hN, hT, hD, hIm, hC, hB, hS, hZ, hL⟩
  have ⟨b1, b2, b3, b4, t, t1, t2, t3, t4⟩ := hB
  have KZ : Kp (fun a i => PcA a i ∨ PmA a i) M (wI (wI M 20 1 0) 66 34 0) := (Kp.w _ _ (by unfold PcA; omega)).tr (Kp.w _ _ (by unfold PmA; omega))
  have hZr : Inv (wI (wI M 20 1 0) 66 34 0) := act_fin hN hT hD hIm hC hS hZ hL KZ rfl ⟨b1, b2, b3, b4, 0, by omega, rfl, rfl, fun i h _ => absurd h (by omega)⟩
  by_cases h1 : x1 < 0 ∨ nI n ≤ x1
  · have e1 : fBodies_isBody (wI M 20 1 0) x1 = 0 := by
      show (if x1 < 0 then 0 else if (M.1 20 0) ≤ x1 then 0 else 1) = (0 : Int32)
      rw [b2]
      grind
    have e2 : fMd_within x1 0 (nI n - 1) = 0 := by
      unfold fMd_within
      by_cases z : x1 < 0
      · rw [if_pos z]
      · have z1 := h1.resolve_left z
        have z2 : nI n - 1 < x1 := by
          by_cases y : n = 0
          · subst y
            have y1 : nI 0 - 1 = -1 := rfl
            rw [y1]
            grind
          · have y1 : nI n - 1 = nI (n - 1) := nI_sub (b := 1) (by omega)
            rw [y1]
            have y2 := Int32.le_iff_toInt_le.mp z1
            rw [Int32.lt_iff_toInt_lt, nI_toInt (by omega)]
            rw [nI_toInt (by omega)] at y2
            omega
        rw [if_neg z, if_pos z2]
    refine ⟨0, wI M 20 1 0, wI (wI M 20 1 0) 66 34 0, ?_, ?_, hZr⟩
    · dsimp only
      rw [fSh_act, fBodies_acted, if_pos e1, Option.bind_some]
    · dsimp only
      rw [fMd_act]
      have e3 : (wI (wI M 20 1 0) 66 34 0).1 66 32 = nI n := b3
      rw [e3, if_pos e2]
  obtain ⟨i, hi, rfl⟩ := in_lit (x := x1) (b := nI n) n (by omega) rfl (by grind) (by grind)
  obtain ⟨h86, k, hk, h22⟩ := b4 i hi
  have e1 : ¬ fBodies_isBody (wI M 20 1 0) (nI i) = 0 := by
    show ¬ (if nI i < 0 then 0 else if (M.1 20 0) ≤ nI i then 0 else 1) = (0 : Int32)
    rw [b2, if_neg (nI_pos (by omega)), if_neg (fun z => absurd ((nI_leI (by omega) (by omega)).mp z) (by omega))]
    decide
  have e2 : ¬ fMd_within (nI i) 0 (nI n - 1) = 0 := by
    unfold fMd_within
    have y1 : nI n - 1 = nI (n - 1) := nI_sub (b := 1) (by omega)
    rw [y1, if_neg (nI_pos (by omega)), if_neg (fun z => absurd ((nI_ltI (by omega) (by omega)).mp z) (by omega))]
    decide
  by_cases h2 : x2 < 0 ∨ 4 ≤ x2
  · have e3 : fMd_within x2 0 3 = 0 := by
      unfold fMd_within
      grind
    refine ⟨0, wI M 20 1 0, wI (wI M 20 1 0) 66 34 0, ?_, ?_, hZr⟩
    · dsimp only
      rw [fSh_act, fBodies_acted, if_neg e1]
      by_cases z : x2 < 0
      · rw [if_pos z, Option.bind_some]
      · rw [if_neg z, if_pos (h2.resolve_left z), Option.bind_some]
    · dsimp only
      rw [fMd_act]
      have e4 : (wI (wI M 20 1 0) 66 34 0).1 66 32 = nI n := b3
      rw [e4, if_neg e2, if_neg (fun z => z e3)]
  obtain ⟨q, hq, rfl⟩ := in_lit (x := x2) (b := 4) 4 (by omega) rfl (by grind) (by grind)
  have e3 : ¬ fMd_within (nI q) 0 3 = 0 := by
    unfold fMd_within
    rw [if_neg (nI_pos (by omega)), if_neg (fun z => absurd ((ltL (b := 3) 3 rfl (by omega) (by omega)).mp z) (by omega))]
    decide
  have h4 : ¬ (4 : Int32) ≤ nI q := fun z => absurd ((leL (b := 4) 4 rfl (by omega) (by omega)).mp z) (by omega)
  have C : ∀ v M1, cFrom 100 (wI M 20 1 0) (nI k) (nI q) (nI i) x3 0 = some (v, M1) → fSh_act M (nI i) (nI q) x3 = some (v, M1) := fun v M1 e => by
    rw [fSh_act, fBodies_acted, if_neg e1, if_neg (nI_pos (by omega)), if_neg h4, rdI_n (by omega) (by omega), Option.bind_some]
    have e5 : (wI M 20 1 0).1 22 i = nI k := h22
    rw [e5]
    show Option.bind (Option.bind (cFrom 100 (wI M 20 1 0) (nI k) (nI q) (nI i) x3 0) _) _ = _
    rw [e, Option.bind_some, Option.bind_some]
  have G : ∀ (M1 M2 : Mem) v, M1.1 66 32 = nI n → M1.1 86 i = nI k → ∀ fm : Mem → Int32 → Int32 → Int32 → Option (Int32 × Mem), (q = 0 → fm = fMd_runsBy) → (q = 1 → fm = fMd_holdsBy) → (q = 2 → fm = fMd_drinksBy) → (q = 3 → fm = fMd_tells) → fm (wI M1 66 34 0) (nI i) (nI k) x3 = some (v, M2) → fMd_act M1 (nI i) (nI q) x3 = some (v, M2) := fun M1 M2 v g1 g2 fm q0 q1 q2 q3 e => by
    rw [fMd_act]
    have e4 : (wI M1 66 34 0).1 66 32 = nI n := g1
    rw [e4, if_neg e2, if_pos e3, rdI_n (by omega) (by omega), Option.bind_some]
    have e5 : (wI M1 66 34 0).1 86 i = nI k := g2
    rw [e5]
    have qq : q = 0 ∨ q = 1 ∨ q = 2 ∨ q = 3 := by omega
    rcases qq with rfl | rfl | rfl | rfl
    · have n0 : ¬ ¬ nI 0 = 0 := fun z => z rfl
      rw [if_neg n0, ← q0 rfl, e, Option.bind_some]
    · have n0 : ¬ nI 1 = 0 := by decide
      have n1 : ¬ ¬ nI 1 = 1 := fun z => z rfl
      rw [if_pos n0, if_neg n1, ← q1 rfl, e, Option.bind_some]
    · have n0 : ¬ nI 2 = 0 := by decide
      have n1 : ¬ nI 2 = 1 := by decide
      have n2 : ¬ ¬ nI 2 = 2 := fun z => z rfl
      rw [if_pos n0, if_pos n1, if_neg n2, ← q2 rfl, e, Option.bind_some]
    · have n0 : ¬ nI 3 = 0 := by decide
      have n1 : ¬ nI 3 = 1 := by decide
      have n2 : ¬ nI 3 = 2 := by decide
      rw [if_pos n0, if_pos n1, if_pos n2, ← q3 rfl, e, Option.bind_some]
  have Z : ∀ (c : Nat) (fm : Mem → Int32 → Int32 → Int32 → Option (Int32 × Mem)), c ≤ 100 → (q = 0 → fm = fMd_runsBy) → (q = 1 → fm = fMd_holdsBy) → (q = 2 → fm = fMd_drinksBy) → (q = 3 → fm = fMd_tells) → Lk i k (fun M => cFrom 100 M (nI k) (nI q) (nI i) x3 0) (fun M => fm M (nI i) (nI k) x3) c → ∃ r M1 M2, fSh_act M (nI i) (nI q) x3 = some (r, M1) ∧ fMd_act M1 (nI i) (nI q) x3 = some (r, M2) ∧ Inv M2 := fun c fm hc q0 q1 q2 q3 hL' => by
    obtain ⟨v, M1, M2, t, a1, a2, a3, a4, a5, a6, a7, a8⟩ := act_two b1 hi h22 (h86.trans h22) hc hL'
    refine ⟨v, M1, M2, C v M1 a1, G M1 M2 v ?_ ?_ fm q0 q1 q2 q3 a2, act_fin hN hT hD hIm hC hS hZ hL a8 rfl ⟨b1, ?_, ?_, fun j hj => ?_, t, a3, a4, a5, a6⟩⟩
    · rw [a7.1 66 32 (by unfold PcA; omega)]; exact b3
    · rw [a7.1 86 i (by unfold PcA; omega)]; exact h86.trans h22
    · rw [a8.1 20 0 (by unfold PcA PmA; omega)]; exact b2
    · rw [a8.1 66 32 (by unfold PcA PmA; omega)]; exact b3
    · rw [a8.1 86 j (by unfold PcA PmA; omega), a8.1 22 j (by unfold PcA PmA; omega)]; exact b4 j hj
  have qq : q = 0 ∨ q = 1 ∨ q = 2 ∨ q = 3 := by omega
  have b : ∀ {a b : Nat} {P : Prop}, a ≠ b → a = b → P := fun h e => absurd e h
  rcases qq with rfl | rfl | rfl | rfl
  · exact Z 2 fMd_runsBy (by omega) (fun _ => rfl) (b (by omega)) (b (by omega)) (b (by omega)) (alike_runs i k 95 0 95 (by omega) k hk x3)
  · exact Z 8 fMd_holdsBy (by omega) (b (by omega)) (fun _ => rfl) (b (by omega)) (b (by omega)) (alike_holds i k hk 88 0 95 (by omega) k hk x3)
  · exact Z 4 fMd_drinksBy (by omega) (b (by omega)) (b (by omega)) (fun _ => rfl) (b (by omega)) (alike_drinks i k hk 92 0 95 (by omega) k hk x3)
  · exact Z 14 fMd_tells (by omega) (b (by omega)) (b (by omega)) (b (by omega)) (fun _ => rfl) (alike_tells i k hk 83 0 95 (by omega) k hk x3)
