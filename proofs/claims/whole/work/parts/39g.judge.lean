/-! judge, seen -/
theorem short_eq {x : Int32} {v : Int64} (h : okEl 1 v) : (x.toInt64 = v) ↔ x = v.toInt32 := by
  obtain ⟨h1, h2⟩ : (-32768 : Int64) ≤ v ∧ v ≤ 32767 := h
  rw [Int64.le_iff_toInt_le] at h1 h2
  have c1 : (-32768 : Int64).toInt = -32768 := by decide
  have c2 : (32767 : Int64).toInt = 32767 := by decide
  rw [c1] at h1
  rw [c2] at h2
  have e : v.toInt32.toInt = v.toInt := by
    rw [Int64.toInt_toInt32]
    unfold Int.bmod
    have e32 : ((2 ^ 32 : Nat) : Int) = 4294967296 := by decide
    simp only [e32]
    split <;> omega
  constructor
  · intro q
    apply Int32.toInt_inj.mp
    rw [e, ← q, Int32.toInt_toInt64]
  · intro q
    apply Int64.toInt_inj.mp
    rw [Int32.toInt_toInt64, q, e]
def Bad (W : Wd) (s : St) (c : Nat) (rw_ : Nat → Int64) (n : Nat) : Prop := ¬ (stN W n s).1 c = (rw_ n).toInt32
theorem fw_c {W : Wd} (hW : okW W) {s : St} (hs : okS W.1 s) {M0 M : Mem} (hT : ThC W 42 M0 s M) {sh k c : Nat} (rw_ : Nat → Int64) (hrow : ∀ i, i < 60 → M0.2.1 (27 + sh) i = rw_ i) (hel : ∀ i, i < 60 → okEl 1 (rw_ i)) (hk : k ≤ 60) (hc : c < 36) : ∃ r M1 m, FirstR (Bad W s c rw_) (min k 49) r ∧ fThought_firstWrongFromThen M (27 + sh) (nI k) (nI c) = some (r, M1) ∧ ThC W 42 M0 (stN W m s) M1 ∧ Kp (PC W.1 42) M M1 := by
  have e49 : mnI (nI k) 49 = nI (min k 49) := mnI_n (b := 49) (by omega) (by omega)
  have mle : min k 49 ≤ 49 := Nat.min_le_right _ _
  obtain ⟨R, eR, h1, m, h2, h3⟩ := loop0 (σ := Mem × Int32) (fun j t => fThought_firstWrongFromThen_L11 j t.1 (27 + sh) (nI c) (nI (min k 49)) t.2) (fun i t => t.2 = nI i ∧ ThC W 42 M0 (stN W (i - 1) s) t.1 ∧ Kp (PC W.1 42) M t.1 ∧ ∀ m, m < i → ¬ Bad W s c rw_ m) (fun R => FirstR (Bad W s c rw_) (min k 49) R.1 ∧ ∃ m, ThC W 42 M0 (stN W m s) R.2 ∧ Kp (PC W.1 42) M R.2) (min k 49) (fu_lt (by omega)) (M, 0) ⟨rfl, hT, Kp.rf _ _, fun m hm => absurd hm (Nat.not_lt_zero m)⟩
    (fun j i t hi hP => by
      obtain ⟨u1, u2⟩ := t
      obtain ⟨q1, T1, K1, hl⟩ := hP
      dsimp only at q1 T1 K1 hl
      subst q1
      have h0 : ¬ nI (min k 49) ≤ nI i := nI_ge hi (by omega)
      have F0 : fThought_firstWrongFromThen_L11 (j + 1) u1 (27 + sh) (nI c) (nI (min k 49)) (nI i) = fThought_firstWrongFromThen_L11_F (fThought_firstWrongFromThen_L11 j) u1 (27 + sh) (nI c) (nI (min k 49)) (nI i) := rfl
      have pre : ∃ u', ThC W 42 M0 (stN W i s) u' ∧ Kp (PC W.1 42) M u' ∧ fThought_firstWrongFromThen_L11_F (fThought_firstWrongFromThen_L11 j) u1 (27 + sh) (nI c) (nI (min k 49)) (nI i) = fThought_firstWrongFromThen_J38_11 (fThought_firstWrongFromThen_L11 j) u' (27 + sh) (nI c) (nI (min k 49)) (nI i) := by
        by_cases i0 : i = 0
        · subst i0
          refine ⟨u1, T1, K1, ?_⟩
          have : nI 0 ≤ 0 := by decide
          rw [fThought_firstWrongFromThen_L11_F, if_neg h0, if_pos this]
        · obtain ⟨d, rfl⟩ : ∃ d, i = d + 1 := ⟨i - 1, by omega⟩
          obtain ⟨u', e, T2, K2⟩ := T1.pass_k hW (Or.inl rfl) (stN_ok hW hs _)
          refine ⟨u', T2, K1.tr K2, ?_⟩
          have : ¬ nI (d + 1) ≤ 0 := nI_nle (by omega) (by omega)
          rw [fThought_firstWrongFromThen_L11_F, if_neg h0, if_neg this, e, Option.bind_some]
      obtain ⟨u', T2, K2, e'⟩ := pre
      have i60 : i < 60 := by omega
      have hrd : u'.2.1 (27 + sh) i = rw_ i := by rw [T2.1.2]; exact hrow i i60
      have hlu : u'.1 (42 + 1) c = (stN W i s).1 c := T2.2.2.1.1 c hc
      have base : fThought_firstWrongFromThen_L11 (j + 1) u1 (27 + sh) (nI c) (nI (min k 49)) (nI i) = if lg_cmp ((stN W i s).1 c).toInt64 (rw_ i) = 0 then fThought_firstWrongFromThen_L11 j u' (27 + sh) (nI c) (nI (min k 49)) (nI (i + 1)) else some (nI i, u') := by
        rw [F0, e', fThought_firstWrongFromThen_J38_11, rdI_n hc (by omega), Option.bind_some, rdL_n i60 (by omega), Option.bind_some, hrd, hlu, nI_1]
      have hiff : lg_cmp ((stN W i s).1 c).toInt64 (rw_ i) = 0 ↔ (stN W i s).1 c = (rw_ i).toInt32 := by rw [lg_cmp_eq, short_eq (hel i i60)]
      by_cases y : (stN W i s).1 c = (rw_ i).toInt32
      · right
        refine ⟨(u', nI (i + 1)), ⟨rfl, T2, K2, fun m hm => ?_⟩, by dsimp only; rw [base, if_pos (hiff.mpr y)]⟩
        rcases Nat.lt_or_ge m i with w | w
        · exact hl m w
        · obtain rfl : m = i := by omega
          exact fun z => z y
      · left
        exact ⟨(nI i, u'), by dsimp only; rw [base, if_neg (fun z => y (hiff.mp z))], Or.inl ⟨i, hi, rfl, y, hl⟩, i, T2, K2⟩)
    (fun j t hP => by
      obtain ⟨u1, u2⟩ := t
      obtain ⟨q1, T1, K1, hl⟩ := hP
      dsimp only at q1 T1 K1 hl
      subst q1
      refine ⟨(-2, u1), ?_, Or.inr ⟨rfl, hl⟩, _, T1, K1⟩
      show fThought_firstWrongFromThen_L11_F (fThought_firstWrongFromThen_L11 j) u1 (27 + sh) (nI c) (nI (min k 49)) (nI (min k 49)) = _
      rw [fThought_firstWrongFromThen_L11_F, if_pos (Int32.le_refl _)])
  obtain ⟨r, M1⟩ := R
  refine ⟨r, M1, m, h1, ?_, h2, h3⟩
  have eR' : fThought_firstWrongFromThen_L11 FU M (27 + sh) (nI c) (nI (min k 49)) 0 = some (r, M1) := eR
  rw [fThought_firstWrongFromThen, e49, eR']
theorem un_m {W : Wd} (hW : okW W) {s : St} (hs : okS W.1 s) {M : Mem} (hC : MW W M) (hV : VM W.1 M s) {sh k c : Nat} (hsh : sh < 6) (rw_ : Nat → Int64) (h89 : M.1 89 sh = nI k) (hrow : ∀ i, i < 60 → M.2.1 90 (60 * sh + i) = rw_ i) (hk : k ≤ 60) (hc : c < 36) : ∃ r M1, FirstR (Bad W s c rw_) (min k 49) r ∧ fMd_unlike M (nI sh) (nI c) = some (r, M1) ∧ Rest M M1 := by
  have mle : min k 49 ≤ 49 := Nat.min_le_right _ _
  have mlk : min k 49 ≤ k := Nat.min_le_left _ _
  obtain ⟨M1, e1, t1, -⟩ := keep_m hW hC hV (Rest.rf M) 92 (by omega)
  obtain ⟨R, eR, hR1, m, hR2⟩ := loop0 (σ := Mem × Int32 × Int32) (fun j t => fMd_unlike_L14 j t.1 (nI sh) (nI c) t.2.1 t.2.2) (fun i t => t.2.2 = nI i ∧ ((t.2.1 = -2 ∧ (∀ m, m < i → ¬ Bad W s c rw_ m) ∧ ThM W 92 M (stN W (i - 1) s) t.1) ∨ (¬ t.2.1 = -2 ∧ FirstR (Bad W s c rw_) (min k 49) t.2.1 ∧ ∃ m, ThM W 92 M (stN W m s) t.1))) (fun R => FirstR (Bad W s c rw_) (min k 49) R.2 ∧ ∃ m, ThM W 92 M (stN W m s) R.1) (min k 49) (fu_lt (by omega)) (M1, -2, 0) ⟨rfl, Or.inl ⟨rfl, fun m hm => absurd hm (Nat.not_lt_zero m), t1⟩⟩
    (fun j i t hi hP => by
      obtain ⟨u1, u2, u3⟩ := t
      obtain ⟨q1, hP⟩ := hP
      dsimp only at q1 hP
      subst q1
      have h0 : ¬ nI k ≤ nI i := nI_ge (by omega) (by omega)
      have h49 : ¬ (49 : Int32) ≤ nI i := nI_geL (b := 49) 49 rfl (by omega) (by omega)
      have u89 : ∀ (u : Mem) (s' : St), ThM W 92 M s' u → u.1 89 sh = nI k := fun u s' T => by rw [T.1.1 89 sh (by unfold PTm; omega)]; exact h89
      have F0 : ∀ v, fMd_unlike_L14 (j + 1) u1 (nI sh) (nI c) v (nI i) = fMd_unlike_L14_F (fMd_unlike_L14 j) u1 (nI sh) (nI c) v (nI i) := fun _ => rfl
      rcases hP with ⟨rfl, hlt, hT⟩ | ⟨h2, hf, m, hT⟩
      · right
        have pre : ∃ u', ThM W 92 M (stN W i s) u' ∧ fMd_unlike_L14_F (fMd_unlike_L14 j) u1 (nI sh) (nI c) (-2) (nI i) = fMd_unlike_J47_14 (fMd_unlike_L14 j) u' (nI sh) (nI c) (-2) (nI i) := by
          by_cases i0 : i = 0
          · subst i0
            refine ⟨u1, hT, ?_⟩
            have : nI 0 ≤ 0 := by decide
            rw [fMd_unlike_L14_F, rdI_n hsh (by omega), Option.bind_some, u89 _ _ hT, if_neg h0, if_neg h49, if_neg (fun z => z rfl), if_pos this]
          · obtain ⟨d, rfl⟩ : ∃ d, i = d + 1 := ⟨i - 1, by omega⟩
            obtain ⟨u', e, hT'⟩ := hT.pass hW (by omega) (stN_ok hW hs _)
            refine ⟨u', hT', ?_⟩
            have : ¬ nI (d + 1) ≤ 0 := nI_nle (by omega) (by omega)
            rw [fMd_unlike_L14_F, rdI_n hsh (by omega), Option.bind_some, u89 _ _ hT, if_neg h0, if_neg h49, if_neg (fun z => z rfl), if_neg this, e, Option.bind_some]
        obtain ⟨u', hT', e'⟩ := pre
        have told : fMd_toldAt u' (nI sh) (nI i) = some (rw_ i).toInt32 := by rw [told_n u' sh i hsh (by omega), hT'.1.2, hrow i (by omega)]
        have base : fMd_unlike_L14 (j + 1) u1 (nI sh) (nI c) (-2) (nI i) = if (stN W i s).1 c = (rw_ i).toInt32 then fMd_unlike_L14 j u' (nI sh) (nI c) (-2) (nI (i + 1)) else fMd_unlike_L14 j u' (nI sh) (nI c) (nI i) (nI (i + 1)) := by
          rw [F0, e', fMd_unlike_J47_14, rdI_n hc (by omega), Option.bind_some, told, Option.bind_some, hT'.2.2.1.1 c hc, nI_1]
        by_cases y : (stN W i s).1 c = (rw_ i).toInt32
        · refine ⟨(u', -2, nI (i + 1)), ⟨rfl, Or.inl ⟨rfl, fun m hm => ?_, hT'⟩⟩, by dsimp only; rw [base, if_pos y]⟩
          rcases Nat.lt_or_ge m i with w | w
          · exact hlt m w
          · obtain rfl : m = i := by omega
            exact fun z => z y
        · exact ⟨(u', nI i, nI (i + 1)), ⟨rfl, Or.inr ⟨not2 (by omega), Or.inl ⟨i, hi, rfl, y, hlt⟩, i, hT'⟩⟩, by dsimp only; rw [base, if_neg y]⟩
      · left
        refine ⟨(u1, u2), ?_, hf, m, hT⟩
        dsimp only
        rw [F0, fMd_unlike_L14_F, rdI_n hsh (by omega), Option.bind_some, u89 _ _ hT, if_neg h0, if_neg h49, if_pos h2])
    (fun j t hP => by
      obtain ⟨u1, u2, u3⟩ := t
      obtain ⟨q1, hP⟩ := hP
      dsimp only at q1 hP
      subst q1
      have T : ∃ s', ThM W 92 M s' u1 := by
        rcases hP with ⟨-, -, hT⟩ | ⟨-, -, m, hT⟩
        · exact ⟨_, hT⟩
        · exact ⟨_, hT⟩
      obtain ⟨s', hT'⟩ := T
      have u89 : u1.1 89 sh = nI k := by rw [hT'.1.1 89 sh (by unfold PTm; omega)]; exact h89
      refine ⟨(u1, u2), ?_, ?_⟩
      · show fMd_unlike_L14_F (fMd_unlike_L14 j) u1 (nI sh) (nI c) u2 (nI (min k 49)) = _
        rw [fMd_unlike_L14_F, rdI_n hsh (by omega), Option.bind_some, u89]
        by_cases w : k ≤ 49
        · rw [Nat.min_eq_left w, if_pos (Int32.le_refl _)]
        · rw [Nat.min_eq_right (by omega), if_neg (nI_ge (by omega) (by omega)), if_pos (by decide)]
      · rcases hP with ⟨rfl, hlt, hT⟩ | ⟨h2, hf, hT⟩
        · exact ⟨Or.inr ⟨rfl, hlt⟩, _, hT⟩
        · exact ⟨hf, hT⟩)
  obtain ⟨M2, r⟩ := R
  dsimp only at hR1 hR2
  obtain ⟨M3, e3, r3, -⟩ := hR2.lays (by omega)
  refine ⟨r, M3, hR1, ?_, r3⟩
  have eR' : fMd_unlike_L14 FU M1 (nI sh) (nI c) (-2) 0 = some (M2, r) := eR
  rw [fMd_unlike, e1, Option.bind_some, eR', Option.bind_some]
  dsimp only
  rw [e3, Option.bind_some]
/-- no ROW of shorts, on both sides; or one -/
theorem shorts_cases {n : Nat} {M : Mem} (hn : n ≤ 50) (hS : IvS n M) {sh : Nat} (hsh : sh < 6) : (∃ v : Int32, ¬ v = 0 ∧ ¬ 0 ≤ v ∧ fShelves_refusal M (nI sh) 1 = some v ∧ ∀ M1 : Mem, M1.1 88 = M.1 88 → fMd_noShorts M1 (nI sh) = some v) ∨ (fShelves_refusal M (nI sh) 1 = some 0 ∧ (∀ M1 : Mem, M1.1 88 = M.1 88 → fMd_noShorts M1 (nI sh) = some 0) ∧ ∃ k : Nat, k ≤ 60 ∧ M.1 25 sh = nI k ∧ M.1 89 sh = nI k ∧ ∀ i, i < 60 → M.2.1 90 (60 * sh + i) = M.2.1 (27 + sh) i ∧ okEl 1 (M.2.1 (27 + sh) i)) := by
  have k6 : (6 : Nat) ≤ 1000 := by omega
  have c1 : fShelves_refusal M (nI sh) 1 = if M.1 24 sh = -1 then some (-11) else if M.1 24 sh = 1 then some 0 else some (-12) := by
    simp only [fShelves_refusal, fShelves_isEmpty, fShelves_isRowOf, rdI_n hsh k6, Option.bind_some]
    by_cases a : M.1 24 sh = -1
    · simp [a]
    · by_cases b : M.1 24 sh = 1 <;> simp [a, b]
  have c2 : ∀ M1 : Mem, M1.1 88 = M.1 88 → fMd_noShorts M1 (nI sh) = if ¬ M.1 88 sh = -1 then if M.1 88 sh = 1 then some 0 else some (-12) else some (-11) := fun M1 h => by
    simp only [fMd_noShorts, rdI_n hsh k6, Option.bind_some, h]
  have n11 : ¬ (-11 : Int32) = 0 ∧ ¬ (0 : Int32) ≤ -11 := by decide
  have n12 : ¬ (-12 : Int32) = 0 ∧ ¬ (0 : Int32) ≤ -12 := by decide
  rcases hS sh hsh with ⟨z1, z2⟩ | ⟨b, hb, z1, z2, z3⟩ | ⟨t, k, ht, hk, z1, z2, z3, z4, z5⟩
  · exact Or.inl ⟨-11, n11.1, n11.2, by rw [c1, if_pos z1], fun M1 h => by rw [c2 M1 h, if_neg (fun w => w z2)]⟩
  · have y1 := m1_ne (n := 10 + b) (by omega)
    have y2 : ¬ nI (10 + b) = 1 := fun z => by have := (eqR (b := 1) 1 rfl (by omega) (by omega)).mp z; omega
    have y3 : ¬ (-2 : Int32) = -1 := by decide
    have y4 : ¬ (-2 : Int32) = 1 := by decide
    exact Or.inl ⟨-12, n12.1, n12.2, by rw [c1, z1, if_neg y3, if_neg y4], fun M1 h => by rw [c2 M1 h, z3, if_pos y1, if_neg y2]⟩
  · have y1 := m1_ne (n := t) (by omega)
    by_cases t1 : t = 1
    · subst t1
      have e1 : nI 1 = 1 := rfl
      exact Or.inr ⟨by rw [c1, z1, if_neg y1, if_pos e1], fun M1 h => by rw [c2 M1 h, z2, if_pos y1, if_pos e1], k, hk, z3, z4, z5⟩
    · have y2 : ¬ nI t = 1 := fun z => t1 ((eqR (b := 1) 1 rfl (by omega) (by omega)).mp z)
      exact Or.inl ⟨-12, n12.1, n12.2, by rw [c1, z1, if_neg y1, if_neg y2], fun M1 h => by rw [c2 M1 h, z2, if_pos y1, if_neg y2]⟩
theorem s_judge (x y : Int32) : Sim (fun M => fSh_judge M x y) (fun M => fMd_judge M x y) := by
  rintro M hI
  have o1 : ¬ (1 : Int32) = 0 := by decide
  rcases shelf_cases x with ⟨h1, h2⟩ | ⟨sh, hsh, rfl, h1, h2⟩
  · exact ⟨-1, M, M, by simp [fSh_judge, h1], by simp [fMd_judge, h2], hI⟩
  rcases cell_cases y with ⟨g1, g2⟩ | ⟨c, hc, rfl, g1, g2⟩
  · exact ⟨-1, M, M, by simp [fSh_judge, h1, g1], by simp [fMd_judge, h2, g2], hI⟩
  have hI0 := hI
  obtain ⟨p, n, hN, hT, hD, hIm, hC, hB, hS, hZ, hL⟩ := hI
  obtain ⟨L, w1, wh, w2, w3, w4, w5, w6⟩ := inv_wh hN hL
  rcases shorts_cases hB.1 hS hsh with ⟨v, v0, v1, r1, r2⟩ | ⟨r1, r2, k, hk, r3, r4, r5⟩
  · exact ⟨v, M, M, by simp [fSh_judge, h1, g1, r1, v0], by simp [fMd_judge, h2, g2, r2 M rfl, v1], hI0⟩
  · obtain ⟨M1, b1, t1, K1⟩ := begin_k w1 (Kp.rf _ M) w2 w5 (fun i hi => (hZ i hi).2)
    obtain ⟨r, M2, m, f1, f2, f3, f4⟩ := fw_c w1 w4 t1 (M.2.1 (27 + sh)) (fun _ _ => rfl) (fun i hi => (r5 i hi).2) hk hc
    have M2w : MW (nowW p L M) M2 := w3.kp f3.1 (fun a i h => by unfold PTc PG at h; omega) w1.1
    have M2v : VM p M2 (nowS M) := w6.kp w1.1 f3.1 (fun a i h => by unfold PTc PG at h; omega)
    have e88 : M2.1 88 = M.1 88 := f3.1.f (fun i h => by unfold PTc PG at h; omega)
    obtain ⟨r', M3, q1, q2, q3⟩ := un_m w1 w4 M2w M2v hsh (M.2.1 (27 + sh)) (by rw [f3.1.1 89 sh (by unfold PTc PG; omega)]; exact r4) (fun i hi => by rw [f3.1.2]; exact (r5 i hi).1) hk hc
    obtain rfl := first_un f1 q1
    refine ⟨r, M2, M3, ?_, ?_, think_inv hI0 f3.1 f3.2.2.2 q3⟩
    · show fSh_judge M (nI sh) (nI c) = _
      rw [fSh_judge, h1, if_neg o1, g1, if_pos o1, r1, Option.bind_some, if_pos rfl, rdR_n hsh, Option.bind_some, rdI_n hsh (by omega), Option.bind_some, r3, fThought_firstWrong, b1, Option.bind_some, f2]
      rfl
    · show fMd_judge M2 (nI sh) (nI c) = _
      rw [fMd_judge, h2, if_neg o1, g2, if_pos o1, r2 M2 e88, Option.bind_some, if_pos (by decide), q2, Option.bind_some]
