def AsT (p : Nat) (s s' : St) : Prop := (∀ c, c < 36 → s'.1 c = s.1 c) ∧ ∀ q, q < p → s'.2.2.2.1 q = s.2.2.2.1 q
theorem as_then {p : Nat} (hp : p ≤ 8) {M : Mem} {s s' : St} (h3 : M.1 66 3 = nI p) (hV : VM p M s') (h94 : ∀ c, c < 36 → M.1 94 c = s.1 c) (h94h : ∀ q, q < p → M.1 94 (96 + q) = s.2.2.2.1 q) : ∃ v, fMd_isAsThen M = some v ∧ (v = 0 ∧ ¬ AsT p s s' ∨ v = 1 ∧ AsT p s s') := by
  obtain ⟨r, e, hr⟩ := loop0 (σ := Int32) (fun k t => fMd_isAsThen_L2 k M t) (fun i t => t = nI i ∧ ∀ c, c < i → s'.1 c = s.1 c) (fun r => (r = Sum.inl 0 ∧ ¬ AsT p s s') ∨ (r = Sum.inr () ∧ ∀ c, c < 36 → s'.1 c = s.1 c)) 36 (fu_lt (by omega)) 0 ⟨rfl, fun c hc => absurd hc (Nat.not_lt_zero c)⟩
    (fun k i t hi hP => by
      obtain ⟨rfl, hl⟩ := hP
      have F0 : fMd_isAsThen_L2 (k + 1) M (nI i) = if s'.1 i = s.1 i then fMd_isAsThen_L2 k M (nI (i + 1)) else some (Sum.inl 0) := by
        show fMd_isAsThen_L2_F (fMd_isAsThen_L2 k) M (nI i) = _
        simp only [fMd_isAsThen_L2_F, nI_lt36 hi, if_false, rdI_n hi (by omega : 36 ≤ 1000), rdI_n (show i < 105 by omega) (by omega : 105 ≤ 1000), Option.bind_some, hV.1 i hi, h94 i hi, nI_1]
      by_cases y : s'.1 i = s.1 i
      · right
        refine ⟨nI (i + 1), ⟨rfl, fun c hc => ?_⟩, by rw [F0, if_pos y]⟩
        rcases Nat.lt_or_ge c i with w | w
        · exact hl c w
        · obtain rfl : c = i := by omega
          exact y
      · left
        exact ⟨Sum.inl 0, by rw [F0, if_neg y], Or.inl ⟨rfl, fun h => y (h.1 i hi)⟩⟩)
    (fun k t hP => by
      obtain ⟨rfl, hl⟩ := hP
      refine ⟨Sum.inr (), ?_, Or.inr ⟨rfl, hl⟩⟩
      show fMd_isAsThen_L2_F (fMd_isAsThen_L2 k) M (nI 36) = _
      simp only [fMd_isAsThen_L2_F, nI_ge36, if_true])
  have e' : fMd_isAsThen_L2 FU M 0 = some r := e
  rcases hr with ⟨rfl, hn⟩ | ⟨rfl, hl⟩
  · exact ⟨0, by rw [fMd_isAsThen, e', Option.bind_some]; rfl, Or.inl ⟨rfl, hn⟩⟩
  · obtain ⟨v, e2, hv⟩ := loop0 (σ := Int32) (fun k t => fMd_isAsThen_L33 k M t) (fun i t => t = nI i ∧ ∀ c, c < i → s'.2.2.2.1 c = s.2.2.2.1 c) (fun v => v = 0 ∧ ¬ AsT p s s' ∨ v = 1 ∧ AsT p s s') p (fu_lt (by omega)) 0 ⟨rfl, fun c hc => absurd hc (Nat.not_lt_zero c)⟩
      (fun k i t hi hP => by
        obtain ⟨rfl, hh⟩ := hP
        have h0 : ¬ nI p ≤ nI i := nI_ge hi (by omega)
        have e24 : (24 : Int32) + nI i = nI (24 + i) := nI_add 24 i
        have e96 : (96 : Int32) + nI i = nI (96 + i) := nI_add 96 i
        have F0 : fMd_isAsThen_L33 (k + 1) M (nI i) = if s'.2.2.2.1 i = s.2.2.2.1 i then fMd_isAsThen_L33 k M (nI (i + 1)) else some 0 := by
          show fMd_isAsThen_L33_F (fMd_isAsThen_L33 k) M (nI i) = _
          simp only [fMd_isAsThen_L33_F, h3, h0, if_false, fMd_has, e24, e96, rdI_n (show 24 + i < 32 by omega) (by omega : 32 ≤ 1000), rdI_n (show 96 + i < 105 by omega) (by omega : 105 ≤ 1000), Option.bind_some, hV.2.2.2.1 i hi, h94h i hi, nI_1]
        by_cases y : s'.2.2.2.1 i = s.2.2.2.1 i
        · right
          refine ⟨nI (i + 1), ⟨rfl, fun c hc => ?_⟩, by rw [F0, if_pos y]⟩
          rcases Nat.lt_or_ge c i with w | w
          · exact hh c w
          · obtain rfl : c = i := by omega
            exact y
        · left
          exact ⟨0, by rw [F0, if_neg y], Or.inl ⟨rfl, fun h => y (h.2 i hi)⟩⟩)
      (fun k t hP => by
        obtain ⟨rfl, hh⟩ := hP
        refine ⟨1, ?_, Or.inr ⟨rfl, hl, hh⟩⟩
        show fMd_isAsThen_L33_F (fMd_isAsThen_L33 k) M (nI p) = _
        simp only [fMd_isAsThen_L33_F, h3, Int32.le_refl, if_true])
    have e2' : fMd_isAsThen_L33 FU M 0 = some v := e2
    refine ⟨v, ?_, hv⟩
    rw [fMd_isAsThen, e', Option.bind_some]
    exact e2'
theorem s_still : Sim fSh_still fMd_still := sim_t fun W s hW hs => by
  obtain ⟨r, hr⟩ := first_ex (fun n => unchg W (stN W n s)) 49
  refine ⟨r, fun M hC hV hz => ?_, fun M hC hV => ?_⟩
  · obtain ⟨M1, e1, t1⟩ := begin_c hW (Kp.rf _ M) hC hV hz
    obtain ⟨R, eR, hR1, m, hR2⟩ := loop0 (σ := Mem × Int32) (fun k t => fThought_whenStill_L7 k t.1 t.2) (fun i t => t.2 = nI i ∧ ThC W 42 M (stN W i s) t.1 ∧ ∀ m, m < i → ¬ unchg W (stN W m s)) (fun R => FirstR (fun n => unchg W (stN W n s)) 49 R.1 ∧ ∃ m, ThC W 42 M (stN W m s) R.2) 49 (fu_lt (by omega)) (M1, 0) ⟨rfl, t1, fun m hm => absurd hm (Nat.not_lt_zero m)⟩
      (fun k i t hi hP => by
        obtain ⟨u1, u2⟩ := t
        obtain ⟨q1, hT, hlt⟩ := hP
        dsimp only at q1 hT hlt
        subst q1
        have h0 : ¬ 48 < nI i := fun z => by have := (ltL (b := 48) 48 rfl (by omega) (by omega)).mp z; omega
        obtain ⟨M2, e2, hT2, hc⟩ := hT.pass hW (Or.inl rfl) (stN_ok hW hs i)
        have F0 : fThought_whenStill_L7 (k + 1) u1 (nI i) = if ¬ M2.1 42 7 = 0 then fThought_whenStill_L7 k M2 (nI (i + 1)) else some (nI i, M2) := by
          show fThought_whenStill_L7_F (fThought_whenStill_L7 k) u1 (nI i) = _
          simp only [fThought_whenStill_L7_F, h0, if_false, e2, Option.bind_some, nI_1]
        rcases hc with ⟨a, b⟩ | ⟨a, b⟩
        · left
          exact ⟨(nI i, M2), by dsimp only; rw [F0, if_neg (fun z => z a)], Or.inl ⟨i, hi, rfl, b, hlt⟩, i + 1, hT2⟩
        · right
          refine ⟨(M2, nI (i + 1)), ⟨rfl, hT2, fun m hm => ?_⟩, by dsimp only; rw [F0, if_pos (by rw [a]; decide)]⟩
          rcases Nat.lt_or_ge m i with w | w
          · exact hlt m w
          · obtain rfl : m = i := by omega
            exact fun z => b.elim z.1 z.2)
      (fun k t hP => by
        obtain ⟨u1, u2⟩ := t
        obtain ⟨q1, hT, hlt⟩ := hP
        dsimp only at q1 hT hlt
        subst q1
        refine ⟨(-2, u1), ?_, Or.inr ⟨rfl, hlt⟩, 49, hT⟩
        show fThought_whenStill_L7_F (fThought_whenStill_L7 k) u1 (nI 49) = _
        have : (48 : Int32) < nI 49 := by decide
        simp only [fThought_whenStill_L7_F, this, if_true])
    obtain ⟨r', M2⟩ := R
    dsimp only at hR1 hR2
    obtain rfl := first_un hR1 hr
    refine ⟨M2, ?_, hR2.1, hR2.2.2.2⟩
    have eR' : fThought_whenStill_L7 FU M1 0 = some (r', M2) := eR
    rw [fSh_still, fThought_whenStill, e1, Option.bind_some, eR', Option.bind_some]
  · obtain ⟨M1, e1, t1, -⟩ := keep_m hW hC hV (Rest.rf M) 92 (by omega)
    obtain ⟨R, eR, hR1, m, hR2⟩ := loop0 (σ := Mem × Int32 × Int32) (fun k t => fMd_still_L13 k t.1 t.2.1 t.2.2) (fun i t => t.2.2 = nI i ∧ ((t.2.1 = -2 ∧ (∀ m, m < i → ¬ unchg W (stN W m s)) ∧ ThM W 92 M (stN W i s) t.1) ∨ (¬ t.2.1 = -2 ∧ FirstR (fun n => unchg W (stN W n s)) 49 t.2.1 ∧ ∃ m, ThM W 92 M (stN W m s) t.1))) (fun R => FirstR (fun n => unchg W (stN W n s)) 49 R.2 ∧ ∃ m, ThM W 92 M (stN W m s) R.1) 49 (fu_lt (by omega)) (M1, -2, 0) ⟨rfl, Or.inl ⟨rfl, fun m hm => absurd hm (Nat.not_lt_zero m), t1⟩⟩
      (fun k i t hi hP => by
        obtain ⟨u1, u2, u3⟩ := t
        obtain ⟨q1, hP⟩ := hP
        dsimp only at q1 hP
        subst q1
        have h0 : ¬ (49 : Int32) ≤ nI i := nI_geL (b := 49) 49 rfl (by omega) (by omega)
        have F0 : ∀ v, fMd_still_L13 (k + 1) u1 v (nI i) = fMd_still_L13_F (fMd_still_L13 k) u1 v (nI i) := fun _ => rfl
        rcases hP with ⟨rfl, hlt, hT⟩ | ⟨h2, hf, hT⟩
        · right
          obtain ⟨u4, e4, K4, k1, k2, k3⟩ := keeps_m u1 94 (by omega)
          have T4 : ThM W 92 M (stN W i s) u4 := by
            obtain ⟨a1, a2, a3, b1, b2, b3⟩ := hT
            refine ⟨a1.tr (K4.mono (fun a i h => by unfold PTm; omega)), a2.kp K4 (fun a i h => by omega) hW.1, a3.kp hW.1 K4 (fun a i h => by omega), fun c hc => ?_, fun j hj => ?_, ?_⟩
            · rw [K4.1 92 _ (by omega), K4.1 92 _ (by omega)]; exact b1 c hc
            · rw [K4.1 92 _ (by omega)]; exact b2 j hj
            · rw [K4.1 92 _ (by omega)]; exact b3
          have hsi := stN_ok hW hs i
          obtain ⟨u5, e5, K5, V5, -, -⟩ := pass_m hW hsi T4.2.1 T4.2.2.1
          have T5 : ThM W 92 M (stp W (stN W i s)) u5 := by
            obtain ⟨a1, a2, a3, b1, b2, b3⟩ := T4
            refine ⟨a1.tr (K5.mono (fun a i h => by unfold PMd at h; unfold PTm; omega)), a2.kp K5 (fun a i h => by unfold PMd at h; omega) hW.1, V5, fun c hc => ?_, fun j hj => ?_, ?_⟩
            · rw [K5.1 92 _ (by unfold PMd; omega), K5.1 92 _ (by unfold PMd; omega)]; exact b1 c hc
            · rw [K5.1 92 _ (by unfold PMd; omega)]; exact b2 j hj
            · rw [K5.1 92 _ (by unfold PMd; omega)]; exact b3
          have f94 : ∀ j, u5.1 94 j = u4.1 94 j := fun j => K5.1 94 j (by unfold PMd; omega)
          obtain ⟨v, ev, hv⟩ := as_then (s := stN W i s) hW.1 T5.2.1.1 T5.2.2.1 (fun c hc => by rw [f94, (k1 c hc).1]; exact hT.2.2.1.1 c hc) (fun q hq => by
            have h1 := hW.1
            rw [f94, show 96 + q = 72 + (24 + q) by omega, k2 (24 + q) (by omega)]
            exact hT.2.2.1.2.2.2.1 q hq)
          have hiff := unchg_iff hW hsi
          have base : fMd_still_L13 (k + 1) u1 (-2) (nI i) = if v = 0 then fMd_still_L13 k u5 (-2) (nI (i + 1)) else fMd_still_L13 k u5 (nI i) (nI (i + 1)) := by
            rw [F0]
            simp only [fMd_still_L13_F, h0, if_false, not_true_eq_false, e4, e5, ev, Option.bind_some, nI_1]
          rcases hv with ⟨rfl, hn⟩ | ⟨rfl, hy⟩
          · refine ⟨(u5, -2, nI (i + 1)), ⟨rfl, Or.inl ⟨rfl, fun m hm => ?_, T5⟩⟩, by dsimp only; rw [base, if_pos rfl]⟩
            rcases Nat.lt_or_ge m i with w | w
            · exact hlt m w
            · obtain rfl : m = i := by omega
              exact fun z => hn (hiff.mp z)
          · exact ⟨(u5, nI i, nI (i + 1)), ⟨rfl, Or.inr ⟨not2 (by omega), Or.inl ⟨i, hi, rfl, hiff.mpr hy, hlt⟩, i + 1, T5⟩⟩, by dsimp only; rw [base, if_neg (by decide)]⟩
        · left
          refine ⟨(u1, u2), ?_, hf, hT⟩
          dsimp only
          rw [F0, fMd_still_L13_F, if_neg h0, if_pos h2])
      (fun k t hP => by
        obtain ⟨u1, u2, u3⟩ := t
        obtain ⟨q1, hP⟩ := hP
        dsimp only at q1 hP
        subst q1
        have h49 : (49 : Int32) ≤ nI 49 := by decide
        refine ⟨(u1, u2), ?_, ?_⟩
        · show fMd_still_L13_F (fMd_still_L13 k) u1 u2 (nI 49) = _
          rw [fMd_still_L13_F, if_pos h49]
        · rcases hP with ⟨rfl, hlt, hT⟩ | ⟨h2, hf, hT⟩
          · exact ⟨Or.inr ⟨rfl, hlt⟩, _, hT⟩
          · exact ⟨hf, hT⟩)
    obtain ⟨M2, r'⟩ := R
    dsimp only at hR1 hR2
    obtain rfl := first_un hR1 hr
    obtain ⟨M3, e3, r3, -⟩ := hR2.lays (by omega)
    refine ⟨M3, ?_, r3⟩
    have eR' : fMd_still_L13 FU M1 (-2) 0 = some (M2, r') := eR
    rw [fMd_still, e1, Option.bind_some, eR', Option.bind_some]
    dsimp only
    rw [e3, Option.bind_some]
