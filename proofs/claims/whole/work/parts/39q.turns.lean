/-! BY TURNS -/
def tS (s : St) (c : Nat) : St := shoeS s c (rmI (s.2.1 c + 1) 3)
def Dv (W : Wd) (a b t : Nat) (s : St) : Int32 := (stN W t s).2.2.2.1 a - (stN W t s).2.2.2.1 b
def fb (i : Nat) (v0 : Int32) (f : Nat → Int32) : Nat → Int32
  | 0 => v0
  | k + 1 => if i % 2 = 0 then (if fb i v0 f k < f k then f k else fb i v0 f k) else (if f k < fb i v0 f k then f k else fb i v0 f k)
def fx (v0 : Int32) (f : Nat → Int32) : Nat → Nat
  | 0 => 6
  | k + 1 => if fb 0 v0 f k < f k then k else fx v0 f k
/-- what the first one has more, r turns left, this the i-th -/
def Gv (W : Wd) (a b t Y : Nat) : Nat → Nat → St → Int32
  | 0, _, s => Dv W a b t s
  | r + 1, i, s => fb i (Gv W a b t Y r (i + 1) s) (fun x => Gv W a b t Y r (i + 1) (tS s (6 * Y + x))) 6
theorem turn3 : ∀ v, v < 3 → rmI (nI v + 1) 3 = nI ((v + 1) % 3) ∧ rmI (rmI (nI v + 1) 3 + 2) 3 = nI v := by decide +kernel
theorem r2N {x : Int32} : rng x 2 ↔ ∃ a : Nat, a ≤ 2 ∧ x = nI a := rngN 2 (by omega) rfl
theorem turn_rng {x : Int32} (h : rng x 2) : rng (rmI (x + 1) 3) 2 ∧ rmI (rmI (x + 1) 3 + 2) 3 = x := by
  obtain ⟨v, hv, rfl⟩ := r2N.mp h
  obtain ⟨a, b⟩ := turn3 v (by omega)
  exact ⟨by rw [a]; exact r2N.mpr ⟨_, by omega, rfl⟩, b⟩
theorem upd_upd (f : Nat → Int32) (c : Nat) (x y : Int32) : upd (upd f c x) c y = upd f c y := by
  funext j
  simp only [upd_a]
  by_cases q : j = c
  · rw [if_pos q, if_pos q]
  · rw [if_neg q, if_neg q, if_neg q]
theorem upd_sw (f : Nat → Int32) {c d : Nat} (h : c ≠ d) (x y : Int32) : upd (upd f c x) d y = upd (upd f d y) c x := by
  funext j
  simp only [upd_a]
  by_cases q : j = d
  · rw [if_pos q, if_neg (fun z => h (z.symm.trans q)), if_pos q]
  · rw [if_neg q, if_neg q]
theorem fb_congr {i : Nat} {v0 v1 : Int32} {f g : Nat → Int32} (h0 : v0 = v1) : ∀ k, (∀ j, j < k → f j = g j) → fb i v0 f k = fb i v1 g k := by
  intro k
  induction k with
  | zero => intro _; exact h0
  | succ k ih => intro h; rw [fb, fb, ih (fun j hj => h j (by omega)), h k (by omega)]
theorem Dv_ind {W : Wd} (hW : okW W) (hH : okH W) {a b t ea eb c : Nat} (ha : a < W.1) (hb : b < W.1) (hea : ea < 36) (heb : eb < 36) {s : St} (hs : okS W.1 s) (ca : s.2.2.1 a = nI ea) (cb : s.2.2.1 b = nI eb) (h1 : ¬ Str W c ea) (h2 : ¬ Str W c eb) (x : Int32) : Dv W a b t (shoeS s c x) = Dv W a b t s := by
  unfold Dv
  rw [← has_agr hW hH hea ha ca hs (agr_shoe s x h1) t, ← has_agr hW hH heb hb cb hs (agr_shoe s x h2) t]
theorem Gv_ind {W : Wd} (hW : okW W) (hH : okH W) {a b t Y ea eb c : Nat} (ha : a < W.1) (hb : b < W.1) (hea : ea < 36) (heb : eb < 36) (h1 : ¬ Str W c ea) (h2 : ¬ Str W c eb) : ∀ (r i : Nat) (s : St) (x : Int32), okS W.1 s → s.2.2.1 a = nI ea → s.2.2.1 b = nI eb → rng x 2 → c < 36 → Y < 6 → Gv W a b t Y r i (shoeS s c x) = Gv W a b t Y r i s := by
  intro r
  induction r with
  | zero => intro i s x hs ca cb _ _ _; exact Dv_ind hW hH ha hb hea heb hs ca cb h1 h2 x
  | succ r ih =>
    intro i s x hs ca cb hx hc hY
    rw [Gv, Gv]
    refine fb_congr (ih (i + 1) s x hs ca cb hx hc hY) 6 (fun j hj => ?_)
    have hcj : 6 * Y + j < 36 := by omega
    by_cases q : 6 * Y + j = c
    · rw [q]
      have e1 : tS (shoeS s c x) c = shoeS s c (rmI (x + 1) 3) := by
        unfold tS shoeS
        dsimp only
        rw [upd_a, if_pos rfl, upd_upd]
      have e2 : tS s c = shoeS s c (rmI (s.2.1 c + 1) 3) := rfl
      rw [e1, e2, ih _ s _ hs ca cb (turn_rng hx).1 hc hY, ih _ s _ hs ca cb (turn_rng (hs.2.1 c hc)).1 hc hY]
    · have e1 : tS (shoeS s c x) (6 * Y + j) = shoeS (tS s (6 * Y + j)) c x := by
        unfold tS shoeS
        dsimp only
        rw [upd_a, if_neg q, upd_sw _ (fun z => q z.symm)]
      rw [e1]
      exact ih _ (tS s (6 * Y + j)) x (shoe_ok hs _ (turn_rng (hs.2.1 _ hcj)).1) ca cb hx hc hY
theorem fb_ge {v0 : Int32} {f : Nat → Int32} {i : Nat} : ∀ k, (i % 2 = 0 → v0 ≤ fb i v0 f k) ∧ (¬ i % 2 = 0 → fb i v0 f k ≤ v0) := by
  intro k
  induction k with
  | zero => exact ⟨fun _ => Int32.le_refl _, fun _ => Int32.le_refl _⟩
  | succ k ih =>
    rw [fb]
    refine ⟨fun h => ?_, fun h => ?_⟩
    · rw [if_pos h]
      by_cases q : fb i v0 f k < f k
      · rw [if_pos q]; exact Int32.le_of_lt (Int32.lt_of_le_of_lt (ih.1 h) q)
      · rw [if_neg q]; exact ih.1 h
    · rw [if_neg h]
      by_cases q : f k < fb i v0 f k
      · rw [if_pos q]; exact Int32.le_of_lt (Int32.lt_of_lt_of_le q (ih.2 h))
      · rw [if_neg q]; exact ih.2 h
/-- to turn what doesn't matter changes nothing -/
theorem fb_same {v0 : Int32} {f : Nat → Int32} {i k : Nat} (h : f k = v0) : fb i v0 f (k + 1) = fb i v0 f k := by
  obtain ⟨a, b⟩ := fb_ge (v0 := v0) (f := f) (i := i) k
  rw [fb, h]
  by_cases q : i % 2 = 0
  · rw [if_pos q, if_neg (Int32.not_lt.mpr (a q))]
  · rw [if_neg q, if_neg (Int32.not_lt.mpr (b q))]
theorem fx_same {v0 : Int32} {f : Nat → Int32} {k : Nat} (h : f k = v0) : fx v0 f (k + 1) = fx v0 f k := by
  obtain ⟨a, b⟩ := fb_ge (v0 := v0) (f := f) (i := 0) k
  rw [fx, h, if_neg (Int32.not_lt.mpr (a rfl))]
/-- the class plans on its street 48 -/
def TP (W : Wd) (M0 : Mem) (a b Y N t : Nat) (s : St) (M : Mem) : Prop := Kp PTc M0 M ∧ CW W M ∧ Zr M ∧ VS W.1 48 M s ∧ M.1 14 2 = nI a ∧ M.1 14 3 = nI b ∧ M.1 14 4 = nI Y ∧ M.1 14 5 = nI N ∧ M.1 14 6 = nI t
theorem TP.kp {W : Wd} {M0 M M1 : Mem} {a b Y N t : Nat} {s : St} (h : TP W M0 a b Y N t s M) {P : Nat → Nat → Prop} (k : Kp P M M1) (hP : ∀ a i, P a i → PTc a i ∧ ¬ (47 ≤ a ∧ a ≤ 53) ∧ a ≠ 59 ∧ ¬ (a = 14 ∧ i ≠ 7)) : TP W M0 a b Y N t s M1 := by
  obtain ⟨h1, h2, h3, h4, h5, h6, h7, h8, h9⟩ := h
  have f : ∀ a i, (47 ≤ a ∧ a ≤ 53) ∨ a = 59 ∨ (a = 14 ∧ i ≠ 7) → M1.1 a i = M.1 a i := fun a i ha => k.1 a i (fun z => by have := hP a i z; omega)
  refine ⟨h1.tr (k.mono (fun a i z => (hP a i z).1)), h2.kp k (fun a i z => by have := (hP a i z).1; unfold PTc PG at this; omega), fun i hi => ?_, ⟨fun i hi => ?_, fun i hi => ?_, fun i hi => ?_, fun i hi => ?_, ?_⟩, ?_, ?_, ?_, ?_, ?_⟩
  · rw [f 47 i (by omega), f 53 i (by omega), f 59 i (by omega)]; exact h3 i hi
  · rw [f _ _ (by omega)]; exact h4.1 i hi
  · rw [f _ _ (by omega)]; exact h4.2.1 i hi
  · rw [f _ _ (by omega)]; exact h4.2.2.1 i hi
  · rw [f _ _ (by omega)]; exact h4.2.2.2.1 i hi
  · rw [f _ _ (by omega)]; exact h4.2.2.2.2
  · rw [f _ _ (by omega)]; exact h5
  · rw [f _ _ (by omega)]; exact h6
  · rw [f _ _ (by omega)]; exact h7
  · rw [f _ _ (by omega)]; exact h8
  · rw [f _ _ (by omega)]; exact h9
theorem diff_c {W : Wd} (hW : okW W) {M0 M : Mem} {a b Y N t : Nat} {s : St} (hs : okS W.1 s) (ha : a < W.1) (hb : b < W.1) (ht : t ≤ 100) (h : TP W M0 a b Y N t s M) : ∃ M1, fTurns_difference M = some (Dv W a b t s, M1) ∧ TP W M0 a b Y N t s M1 := by
  have p8 := hW.1
  have h' := h
  obtain ⟨h1, h2, h3, h4, h5, h6, h7, h8, h9⟩ := h
  obtain ⟨M1, e1, K1, V1, -⟩ := become_c (b0 := 54) (b1 := 48) p8 (by omega) h4
  have T1 : ThC W 54 M0 s M1 := ⟨h1.tr (K1.mono (fun a i h => by unfold PB at h; unfold PTc; omega)), h2.kp K1 (fun a i h => by unfold PB at h; omega), V1, fun i hi => by
    rw [K1.1 47 i (by unfold PB; omega), K1.1 53 i (by unfold PB; omega), K1.1 59 i (by unfold PB; omega)]; exact h3 i hi⟩
  obtain ⟨M2, e2, T2, K2⟩ := loop0 (σ := Mem × Int32) (fun k u => fTurns_difference_L20 k u.1 u.2) (fun i u => u.2 = nI i ∧ ThC W 54 M0 (stN W i s) u.1 ∧ Kp (fun a i => (54 ≤ a ∧ a ≤ 59) ∨ PG a i) M u.1) (fun r => ThC W 54 M0 (stN W t s) r ∧ Kp (fun a i => (54 ≤ a ∧ a ≤ 59) ∨ PG a i) M r) t (fu_lt (by omega)) (M1, 0) ⟨rfl, T1, K1.mono (fun a i h => by unfold PB at h; omega)⟩
    (fun k i u hi hP => by
      obtain ⟨u1, u2⟩ := u
      obtain ⟨q1, T, K⟩ := hP
      dsimp only at q1 T K
      subst q1
      right
      obtain ⟨M3, e3, T3, K3⟩ := T.pass_k hW (Or.inr rfl) (stN_ok hW hs i)
      have h0 : ¬ nI t ≤ nI i := nI_ge hi (by omega)
      have f6 : u1.1 14 6 = nI t := by rw [K.1 14 6 (by unfold PG; omega)]; exact h9
      refine ⟨(M3, nI (i + 1)), ⟨rfl, T3, K.tr (K3.mono (fun a i h => by unfold PC at h; unfold PG at h ⊢; omega))⟩, ?_⟩
      show fTurns_difference_L20_F (fTurns_difference_L20 k) u1 (nI i) = _
      rw [fTurns_difference_L20_F, f6, if_neg h0, e3, Option.bind_some, nI_1])
    (fun k u hP => by
      obtain ⟨u1, u2⟩ := u
      obtain ⟨q1, T, K⟩ := hP
      dsimp only at q1 T K
      subst q1
      have f6 : u1.1 14 6 = nI t := by rw [K.1 14 6 (by unfold PG; omega)]; exact h9
      refine ⟨u1, ?_, T, K⟩
      show fTurns_difference_L20_F (fTurns_difference_L20 k) u1 (nI t) = _
      rw [fTurns_difference_L20_F, f6, if_pos (Int32.le_refl _)])
  have e2' : fTurns_difference_L20 FU M1 0 = some M2 := e2
  have f2 : M2.1 14 2 = nI a := by rw [K2.1 14 2 (by unfold PG; omega)]; exact h5
  have f3 : M2.1 14 3 = nI b := by rw [K2.1 14 3 (by unfold PG; omega)]; exact h6
  have v := T2.2.2.1.2.2.2.1
  refine ⟨M2, ?_, T2.1, T2.2.1, T2.2.2.2, h4.kp K2 (fun a i h => by unfold PG at h; omega), f2, f3, ?_, ?_, ?_⟩
  · rw [fTurns_difference, h2.1, e1, Option.bind_some, e2', Option.bind_some, f2, f3, rdI_n (by omega) (by omega), Option.bind_some, rdI_n (by omega) (by omega), Option.bind_some, v a ha, v b hb]
    rfl
  · rw [K2.1 14 4 (by unfold PG; omega)]; exact h7
  · rw [K2.1 14 5 (by unfold PG; omega)]; exact h8
  · rw [K2.1 14 6 (by unfold PG; omega)]; exact h9
theorem matt_c {W : Wd} (hH : okH W) {M0 M : Mem} {a b Y N t : Nat} {s : St} {c ea eb : Nat} (ha : a < 8) (hb : b < 8) (ha' : a < W.1) (hb' : b < W.1) (hc : c < 36) (hea : ea < 36) (heb : eb < 36) (ca : s.2.2.1 a = nI ea) (cb : s.2.2.1 b = nI eb) (h : TP W M0 a b Y N t s M) : ∃ v, fTurns_matters M (nI c) = some v ∧ (¬ v = 0 ∨ v = 0 ∧ ¬ Str W c ea ∧ ¬ Str W c eb) := by
  obtain ⟨h1, h2, h3, h4, h5, h6, h7, h8, h9⟩ := h
  have o1 : ¬ (1 : Int32) = 0 := by decide
  have fa : M.1 (48 + 3) a = nI ea := (h4.2.2.1 a ha').trans ca
  have fb : M.1 (48 + 3) b = nI eb := (h4.2.2.1 b hb').trans cb
  obtain ⟨v, ev, hv⟩ := str_c hH h2 hc hea
  obtain ⟨v', ev', hv'⟩ := str_c hH h2 hc heb
  have base : fTurns_matters M (nI c) = if ¬ v = 0 then some 1 else if v' = 0 then some 0 else some 1 := by
    rw [fTurns_matters, h5, rdI_n ha (by omega), Option.bind_some, fa, ev, Option.bind_some, h6, rdI_n hb (by omega), Option.bind_some, fb, ev', Option.bind_some]
  rcases hv with ⟨rfl, hv⟩ | ⟨rfl, hv⟩
  · exact ⟨1, by rw [base, if_pos o1], Or.inl o1⟩
  · rcases hv' with ⟨rfl, hv'⟩ | ⟨rfl, hv'⟩
    · exact ⟨1, by rw [base, if_neg (fun z => z rfl), if_neg o1], Or.inl o1⟩
    · exact ⟨0, by rw [base, if_neg (fun z => z rfl), if_pos rfl], Or.inr ⟨rfl, hv, hv'⟩⟩
