/-! rich, still -/
theorem least {P : Nat → Prop} : ∀ N : Nat, (∃ n, n < N ∧ P n) → ∃ n, n < N ∧ P n ∧ ∀ m, m < n → ¬ P m := by
  intro N
  induction N with
  | zero =>
    rintro ⟨n, hn, h⟩
    omega
  | succ N ih =>
    rintro ⟨n, hn, h⟩
    by_cases q : ∃ n, n < N ∧ P n
    · obtain ⟨a, b, c, d⟩ := ih q
      exact ⟨a, by omega, c, d⟩
    · exact ⟨n, hn, h, fun m hm hp => q ⟨m, by omega, hp⟩⟩
/-- the first below N of which B holds; NOT -/
def FirstR (B : Nat → Prop) (N : Nat) (r : Int32) : Prop := (∃ n, n < N ∧ r = nI n ∧ B n ∧ ∀ m, m < n → ¬ B m) ∨ (r = -2 ∧ ∀ m, m < N → ¬ B m)
theorem first_ex (B : Nat → Prop) (N : Nat) : ∃ r, FirstR B N r := by
  by_cases q : ∃ n, n < N ∧ B n
  · obtain ⟨n, h1, h2, h3⟩ := least N q
    exact ⟨nI n, Or.inl ⟨n, h1, rfl, h2, h3⟩⟩
  · exact ⟨-2, Or.inr ⟨rfl, fun m hm hp => q ⟨m, hm, hp⟩⟩⟩
theorem first_un {B : Nat → Prop} {N : Nat} {r r' : Int32} (h : FirstR B N r) (h' : FirstR B N r') : r = r' := by
  rcases h with ⟨n, a1, a2, a3, a4⟩ | ⟨a1, a2⟩
  · rcases h' with ⟨n', b1, b2, b3, b4⟩ | ⟨b1, b2⟩
    · have : n = n' := by
        rcases Nat.lt_trichotomy n n' with z | z | z
        · exact absurd a3 (b4 n z)
        · exact z
        · exact absurd b3 (a4 n' z)
      rw [a2, b2, this]
    · exact absurd a3 (b2 n a1)
  · rcases h' with ⟨n', b1, b2, b3, b4⟩ | ⟨b1, b2⟩
    · exact absurd b3 (a2 n' b1)
    · rw [a1, b1]
theorem not2 {n : Nat} (h : n < 2 ^ 31) : ¬ nI n = -2 := m2_ne h
theorem s_rich (x z : Int32) : Sim (fun M => fSh_rich M x z) (fun M => fMd_rich M x z) := sim_t fun W s hW hs => by
  have o1 : ¬ (1 : Int32) = 0 := by decide
  rcases pers_cases W.1 hW.1 x with g | ⟨q, hq, rfl, g⟩
  · exact ⟨-1, .const fun M hC => by simp [fSh_rich, pers_c hC, g], .const fun M hC => by simp [fMd_rich, pers_m hW hC, g]⟩
  have q8 : q < 8 := by have := hW.1; omega
  have f6 : ∀ M, fWorld_isWithin M z 6 = some (fMd_within z 0 9999) := fun M => (fit_ok M z 6 (by omega)).1
  by_cases hz0 : fMd_within z 0 9999 = 0
  · exact ⟨-1, .const fun M hC => by simp [fSh_rich, pers_c hC, g, f6, hz0], .const fun M hC => by simp [fMd_rich, pers_m hW hC, g, hz0]⟩
  obtain ⟨r, hr⟩ := first_ex (fun n => ¬ (stN W n s).2.2.2.1 q < z) 49
  refine ⟨r, fun M hC hV hz => ?_, fun M hC hV => ?_⟩
  · obtain ⟨M1, e1, t1⟩ := begin_c hW (Kp.rf _ M) hC hV hz
    obtain ⟨R, eR, hR1, m, hR2⟩ := loop0 (σ := Mem × Int32) (fun k t => fThought_whenRich_L8 k t.1 (nI q) z t.2) (fun i t => t.2 = nI i ∧ ThC W 42 M (stN W i s) t.1 ∧ ∀ m, m < i → (stN W m s).2.2.2.1 q < z) (fun R => FirstR (fun n => ¬ (stN W n s).2.2.2.1 q < z) 49 R.1 ∧ ∃ m, ThC W 42 M (stN W m s) R.2) 48 (fu_lt (by omega)) (M1, 0) ⟨rfl, t1, fun m hm => absurd hm (Nat.not_lt_zero m)⟩
      (fun k i t hi hP => by
        obtain ⟨u1, u2⟩ := t
        obtain ⟨q1, hT, hlt⟩ := hP
        dsimp only at q1 hT hlt
        subst q1
        have h0 : ¬ (48 : Int32) ≤ nI i := nI_geL (b := 48) 48 rfl (by omega) (by omega)
        have F0 : fThought_whenRich_L8 (k + 1) u1 (nI q) z (nI i) = fThought_whenRich_L8_F (fThought_whenRich_L8 k) u1 (nI q) z (nI i) := rfl
        by_cases y : (stN W i s).2.2.2.1 q < z
        · right
          obtain ⟨M2, e2, hT2, -⟩ := hT.pass hW (Or.inl rfl) (stN_ok hW hs i)
          refine ⟨(M2, nI (i + 1)), ⟨rfl, hT2, fun m hm => ?_⟩, ?_⟩
          · rcases Nat.lt_or_ge m i with w | w
            · exact hlt m w
            · obtain rfl : m = i := by omega
              exact y
          · dsimp only
            rw [F0]
            simp only [fThought_whenRich_L8_F, h0, if_false, rdI_n q8 (by omega : 8 ≤ 1000), Option.bind_some, hT.2.2.1.2.2.2.1 q hq, y, if_true, e2, nI_1]
        · left
          refine ⟨(nI i, u1), ?_, Or.inl ⟨i, by omega, rfl, y, fun m hm w => w (hlt m hm)⟩, i, hT⟩
          dsimp only
          rw [F0]
          simp only [fThought_whenRich_L8_F, h0, if_false, rdI_n q8 (by omega : 8 ≤ 1000), Option.bind_some, hT.2.2.1.2.2.2.1 q hq, y])
      (fun k t hP => by
        obtain ⟨u1, u2⟩ := t
        obtain ⟨q1, hT, hlt⟩ := hP
        dsimp only at q1 hT hlt
        subst q1
        have h48 : (48 : Int32) ≤ nI 48 := by decide
        have F0 : fThought_whenRich_L8 (k + 1) u1 (nI q) z (nI 48) = if (stN W 48 s).2.2.2.1 q < z then some (-2, u1) else some (48, u1) := by
          show fThought_whenRich_L8_F (fThought_whenRich_L8 k) u1 (nI q) z (nI 48) = _
          simp only [fThought_whenRich_L8_F, h48, if_true, rdI_n q8 (by omega : 8 ≤ 1000), Option.bind_some, hT.2.2.1.2.2.2.1 q hq]
        by_cases y : (stN W 48 s).2.2.2.1 q < z
        · refine ⟨(-2, u1), by dsimp only; rw [F0, if_pos y], Or.inr ⟨rfl, fun m hm w => ?_⟩, 48, hT⟩
          rcases Nat.lt_or_ge m 48 with v | v
          · exact w (hlt m v)
          · obtain rfl : m = 48 := by omega
            exact w y
        · exact ⟨(48, u1), by dsimp only; rw [F0, if_neg y], Or.inl ⟨48, by omega, rfl, y, fun m hm w => w (hlt m hm)⟩, 48, hT⟩)
    obtain ⟨r', M2⟩ := R
    dsimp only at hR1 hR2
    obtain rfl := first_un hR1 hr
    refine ⟨M2, ?_, hR2.1, hR2.2.2.2⟩
    have eR' : fThought_whenRich_L8 FU M1 (nI q) z 0 = some (r', M2) := eR
    show fSh_rich M (nI q) z = _
    simp only [fSh_rich, pers_c hC, g, o1, if_false, f6, Option.bind_some, hz0]
    rw [fThought_whenRich, e1, Option.bind_some, eR', Option.bind_some]
  · obtain ⟨M1, e1, t1, -⟩ := keep_m hW hC hV (Rest.rf M) 92 (by omega)
    obtain ⟨R, eR, hR1, m, hR2⟩ := loop0 (σ := Mem × Int32 × Int32) (fun k t => fMd_rich_L35 k t.1 (nI q) z t.2.1 t.2.2) (fun i t => t.2.2 = nI i ∧ ((t.2.1 = -2 ∧ (∀ m, m < i → (stN W m s).2.2.2.1 q < z) ∧ ThM W 92 M (stN W (i - 1) s) t.1) ∨ (¬ t.2.1 = -2 ∧ FirstR (fun n => ¬ (stN W n s).2.2.2.1 q < z) 49 t.2.1 ∧ ∃ m, ThM W 92 M (stN W m s) t.1))) (fun R => FirstR (fun n => ¬ (stN W n s).2.2.2.1 q < z) 49 R.2 ∧ ∃ m, ThM W 92 M (stN W m s) R.1) 49 (fu_lt (by omega)) (M1, -2, 0) ⟨rfl, Or.inl ⟨rfl, fun m hm => absurd hm (Nat.not_lt_zero m), t1⟩⟩
      (fun k i t hi hP => by
        obtain ⟨u1, u2, u3⟩ := t
        obtain ⟨q1, hP⟩ := hP
        dsimp only at q1 hP
        subst q1
        have h0 : ¬ (49 : Int32) ≤ nI i := nI_geL (b := 49) 49 rfl (by omega) (by omega)
        have F0 : ∀ v, fMd_rich_L35 (k + 1) u1 (nI q) z v (nI i) = fMd_rich_L35_F (fMd_rich_L35 k) u1 (nI q) z v (nI i) := fun _ => rfl
        rcases hP with ⟨rfl, hlt, hT⟩ | ⟨h2, hf, hT⟩
        · right
          have pre : ∃ u', ThM W 92 M (stN W i s) u' ∧ fMd_rich_L35_F (fMd_rich_L35 k) u1 (nI q) z (-2) (nI i) = fMd_rich_J57_35 (fMd_rich_L35 k) u' (nI q) z (-2) (nI i) := by
            by_cases i0 : i = 0
            · subst i0
              refine ⟨u1, hT, ?_⟩
              have : nI 0 ≤ 0 := by decide
              simp only [fMd_rich_L35_F, h0, if_false, not_true_eq_false, this, if_true]
            · obtain ⟨j, rfl⟩ : ∃ j, i = j + 1 := ⟨i - 1, by omega⟩
              obtain ⟨u', e, hT'⟩ := hT.pass hW (by omega) (stN_ok hW hs _)
              refine ⟨u', hT', ?_⟩
              have : ¬ nI (j + 1) ≤ 0 := nI_nle (by omega) (by omega)
              simp only [fMd_rich_L35_F, h0, if_false, not_true_eq_false, this, e, Option.bind_some]
          obtain ⟨u', hT', e'⟩ := pre
          by_cases y : (stN W i s).2.2.2.1 q < z
          · refine ⟨(u', -2, nI (i + 1)), ⟨rfl, Or.inl ⟨rfl, fun m hm => ?_, hT'⟩⟩, ?_⟩
            · rcases Nat.lt_or_ge m i with w | w
              · exact hlt m w
              · obtain rfl : m = i := by omega
                exact y
            · dsimp only
              rw [F0, e', fMd_rich_J57_35, has_m hT' hW.1 hq, Option.bind_some, if_pos y, nI_1]
          · refine ⟨(u', nI i, nI (i + 1)), ⟨rfl, Or.inr ⟨not2 (by omega), Or.inl ⟨i, hi, rfl, y, fun m hm w => w (hlt m hm)⟩, i, hT'⟩⟩, ?_⟩
            dsimp only
            rw [F0, e', fMd_rich_J57_35, has_m hT' hW.1 hq, Option.bind_some, if_neg y, nI_1]
        · left
          refine ⟨(u1, u2), ?_, hf, hT⟩
          dsimp only
          rw [F0, fMd_rich_L35_F, if_neg h0, if_pos h2])
      (fun k t hP => by
        obtain ⟨u1, u2, u3⟩ := t
        obtain ⟨q1, hP⟩ := hP
        dsimp only at q1 hP
        subst q1
        have h49 : (49 : Int32) ≤ nI 49 := by decide
        refine ⟨(u1, u2), ?_, ?_⟩
        · show fMd_rich_L35_F (fMd_rich_L35 k) u1 (nI q) z u2 (nI 49) = _
          rw [fMd_rich_L35_F, if_pos h49]
        · rcases hP with ⟨rfl, hlt, hT⟩ | ⟨h2, hf, hT⟩
          · exact ⟨Or.inr ⟨rfl, fun m hm w => w (hlt m hm)⟩, _, hT⟩
          · exact ⟨hf, hT⟩)
    obtain ⟨M2, r'⟩ := R
    dsimp only at hR1 hR2
    obtain rfl := first_un hR1 hr
    obtain ⟨M3, e3, r3, -⟩ := hR2.lays (by omega)
    refine ⟨M3, ?_, r3⟩
    have eR' : fMd_rich_L35 FU M1 (nI q) z (-2) 0 = some (M2, r') := eR
    show fMd_rich M (nI q) z = _
    simp only [fMd_rich, pers_m hW hC, g, o1, if_false, hz0, not_false_eq_true, if_true, e1, Option.bind_some, eR', e3]
/-! STILL -/
/-- who drank has more than before -/
theorem dr_more {W : Wd} (hW : okW W) {s : St} (hs : okS W.1 s) : ∀ k, k ≤ W.1 → ∃ d : Nat, (dr W s.2.2.1 s.1 s.2.2.2.1 k).2.2 = nI d ∧ d ≤ 99 * k ∧ (∀ q, k ≤ q → (dr W s.2.2.1 s.1 s.2.2.2.1 k).2.1 q = s.2.2.2.1 q) ∧ (d = 0 → (∀ i, (dr W s.2.2.1 s.1 s.2.2.2.1 k).1 i = s.1 i) ∧ ∀ q, (dr W s.2.2.1 s.1 s.2.2.2.1 k).2.1 q = s.2.2.2.1 q) ∧ (0 < d → ∃ q, q < k ∧ (dr W s.2.2.1 s.1 s.2.2.2.1 k).2.1 q ≠ s.2.2.2.1 q) := by
  intro k
  induction k with
  | zero => intro _; exact ⟨0, rfl, Nat.zero_le _, fun q _ => rfl, fun _ => ⟨fun _ => rfl, fun _ => rfl⟩, fun h => by omega⟩
  | succ k ih =>
    intro hk
    obtain ⟨d, i1, i2, i3, i4, i5⟩ := ih (by omega)
    obtain ⟨j1, j2, -⟩ := dr_ok hW hs k (by omega)
    rw [dr]
    by_cases q : W.2.2.2.1 k = 1
    · rw [if_pos q]
      exact ⟨d, i1, by omega, fun r hr => i3 r (by omega), i4, fun h => by obtain ⟨r, a, b⟩ := i5 h; exact ⟨r, by omega, b⟩⟩
    · rw [if_neg q]
      obtain ⟨c, hc, ec⟩ := hs.2.2.1 k (by omega)
      obtain ⟨e, he, ee⟩ := r99.mp (hW.2.1 k (by omega))
      obtain ⟨a, ha, ea⟩ := r9999.mp (j1 c hc)
      obtain ⟨g, hg, eg⟩ := r9999.mp (j2 k (by omega))
      rw [ec, ix_n (by omega), ee, ea, eg, sub9999 hg, mnI_n (by omega) (by omega), mnI_n (by omega) (by omega), i1]
      generalize ht : min e (min a (9999 - g)) = t
      have t1 : t ≤ a := by omega
      have t2 : t ≤ 9999 - g := by omega
      have t3 : t ≤ 99 := by omega
      rw [nI_sub t1, nI_add, nI_add]
      refine ⟨d + t, rfl, by omega, fun r hr => ?_, fun h => ⟨fun i => ?_, fun r => ?_⟩, fun h => ?_⟩
      · dsimp only
        rw [upd_a, if_neg (by omega)]
        exact i3 r (by omega)
      · dsimp only
        have t0 : t = 0 := by omega
        rw [upd_a]
        by_cases z : i = c
        · rw [if_pos z, z, ← (i4 (by omega)).1 c, ea, t0, Nat.sub_zero]
        · rw [if_neg z]; exact (i4 (by omega)).1 i
      · dsimp only
        have t0 : t = 0 := by omega
        rw [upd_a]
        by_cases z : r = k
        · rw [if_pos z, z, ← (i4 (by omega)).2 k, eg, t0, Nat.add_zero]
        · rw [if_neg z]; exact (i4 (by omega)).2 r
      · dsimp only
        by_cases t0 : t = 0
        · obtain ⟨r, hr, hne⟩ := i5 (by omega)
          refine ⟨r, by omega, ?_⟩
          rw [upd_a, if_neg (by omega)]
          exact hne
        · refine ⟨k, by omega, ?_⟩
          rw [upd_a, if_pos rfl, ← i3 k (Nat.le_refl _), eg]
          intro z
          have := (nI_eq (by omega) (by omega)).mp z
          omega
/-- nothing changes in an hour: as the class has it, and as the reference -/
def unchg (W : Wd) (s : St) : Prop := ¬ 0 < drk W s ∧ ¬ Chg W s 36
theorem unchg_iff {W : Wd} (hW : okW W) {s : St} (hs : okS W.1 s) : unchg W s ↔ (∀ c, c < 36 → (stp W s).1 c = s.1 c) ∧ ∀ q, q < W.1 → (stp W s).2.2.2.1 q = s.2.2.2.1 q := by
  obtain ⟨d, i1, i2, i3, i4, i5⟩ := dr_more hW hs W.1 (Nat.le_refl _)
  have p8 := hW.1
  have hd : 0 < drk W s ↔ 0 < d := by
    show 0 < (dr W s.2.2.1 s.1 s.2.2.2.1 W.1).2.2 ↔ _
    rw [i1]
    exact nI_ltI (a := 0) (by omega) (by omega)
  unfold unchg
  rw [hd]
  constructor
  · rintro ⟨h1, h2⟩
    obtain ⟨a1, a2⟩ := i4 (by omega)
    refine ⟨fun c hc => ?_, fun q hq => a2 q⟩
    have : lk W s c = (mid W s).1 c := Decidable.not_not.mp (fun z => h2 ⟨c, hc, z⟩)
    show lk W s c = _
    rw [this]
    exact a1 c
  · rintro ⟨h1, h2⟩
    have d0 : ¬ 0 < d := fun z => by
      obtain ⟨q, hq, hne⟩ := i5 z
      exact hne (h2 q hq)
    obtain ⟨a1, a2⟩ := i4 (by omega)
    refine ⟨d0, fun ⟨c, hc, hne⟩ => hne ?_⟩
    have e1 : lk W s c = s.1 c := h1 c hc
    have e2 : (mid W s).1 c = s.1 c := a1 c
    rw [e1, e2]
