theorem shoesFor_m {W : Wd} (hW : okW W) {s : St} (hs : okS W.1 s) {M0 M : Mem} (hC : MW W M0) (hV : VM W.1 M0 s) (hR : Rest M0 M) {q t : Nat} (hq : q < W.1) (ht : t ≤ 1000) (x X : Int32) (ex : x / 10000 = nI t) (eX : rmI x 10000 = X) : ∃ k r M1, OutS W s q t X k r ∧ fMd_shoesFor M (nI q) x = some (r, M1) ∧ Rest M0 M1 := by
  have rd : ∀ u, Rest M0 u → ∀ c, c < 36 → u.1 69 c = s.2.1 c := fun u r c hc => by rw [(r.2.1 c hc).2]; exact hV.2.1 c hc
  have hung : ∀ u, Rest M0 u → ∀ a b : Option Nat, okA a → okA b → ∃ v M1, fMd_isHung u (nI q) x (oneI a) (oneI b) = some (v, M1) ∧ Rest M0 M1 ∧ (v = 0 ∧ hv W s q t a b < X ∨ v = 1 ∧ ¬ hv W s q t a b < X) := fun u r a b ha hb => hung_m hW hs hC hV r hq ht x X ex eX a b ha hb
  obtain ⟨v0, M1, e0, r0, h0⟩ := hung M hR none none trivial trivial
  have e0' : fMd_isHung M (nI q) x (-1) (-1) = some (v0, M1) := e0
  rcases h0 with ⟨rfl, y0⟩ | ⟨rfl, y0⟩
  case inr => exact ⟨0, -9, M1, Or.inl ⟨y0, rfl, rfl⟩, by rw [fMd_shoesFor, e0', Option.bind_some, if_neg (show ¬ (1 : Int32) = 0 by decide)], r0⟩
  have e36 : ∀ a b : Nat, (36 : Int32) * nI a + nI b = nI (36 * a + b) := fun a b => by
    have : (36 : Int32) = nI 36 := rfl
    rw [this, nI_mul, nI_add]
  obtain ⟨R, eR, hR1⟩ := loop0 (σ := Mem × Int32) (fun n u => fMd_shoesFor_L16 n u.1 (nI q) x u.2) (fun i u => u.2 = nI i ∧ Rest M0 u.1 ∧ ∀ c, c < i → s.2.1 c = 1 ∨ hv W s q t (some c) none < X) (fun R => (∃ c M2, R = Sum.inl (nI c, M2) ∧ c < 36 ∧ ¬ s.2.1 c = 1 ∧ ¬ hv W s q t (some c) none < X ∧ (∀ c', c' < c → s.2.1 c' = 1 ∨ hv W s q t (some c') none < X) ∧ Rest M0 M2) ∨ (∃ M2, R = Sum.inr M2 ∧ Rest M0 M2 ∧ ∀ c, c < 36 → s.2.1 c = 1 ∨ hv W s q t (some c) none < X)) 36 (fu_lt (by omega)) (M1, 0) ⟨rfl, r0, fun c hc => absurd hc (Nat.not_lt_zero c)⟩
    (fun n i u hi hP => by
      obtain ⟨u1, u2⟩ := u
      obtain ⟨q1, r1, hl⟩ := hP
      dsimp only at q1 r1 hl
      subst q1
      obtain ⟨v, M2, e, r2, hv1⟩ := hung u1 r1 (some i) none hi trivial
      have e' : fMd_isHung u1 (nI q) x (nI i) (-1) = some (v, M2) := e
      have base : fMd_shoesFor_L16 (n + 1) u1 (nI q) x (nI i) = if s.2.1 i = 1 then fMd_shoesFor_L16 n u1 (nI q) x (nI (i + 1)) else if v = 0 then fMd_shoesFor_L16 n M2 (nI q) x (nI (i + 1)) else some (Sum.inl (nI i, M2)) := by
        show fMd_shoesFor_L16_F (fMd_shoesFor_L16 n) u1 (nI q) x (nI i) = _
        rw [fMd_shoesFor_L16_F, if_neg (nI_lt36 hi), rdI_n hi (by omega), Option.bind_some, rd u1 r1 i hi, e', Option.bind_some, nI_1]
      have ext : (s.2.1 i = 1 ∨ hv W s q t (some i) none < X) → ∀ c, c < i + 1 → s.2.1 c = 1 ∨ hv W s q t (some c) none < X := fun h c hc => by
        rcases Nat.lt_or_ge c i with w | w
        · exact hl c w
        · obtain rfl : c = i := by omega
          exact h
      by_cases z : s.2.1 i = 1
      · right
        exact ⟨(u1, nI (i + 1)), ⟨rfl, r1, ext (Or.inl z)⟩, by dsimp only; rw [base, if_pos z]⟩
      · rcases hv1 with ⟨rfl, y⟩ | ⟨rfl, y⟩
        · right
          exact ⟨(M2, nI (i + 1)), ⟨rfl, r2, ext (Or.inr y)⟩, by dsimp only; rw [base, if_neg z, if_pos rfl]⟩
        · left
          exact ⟨_, by dsimp only; rw [base, if_neg z, if_neg (by decide)], Or.inl ⟨i, M2, rfl, hi, z, y, hl, r2⟩⟩)
    (fun n u hP => by
      obtain ⟨u1, u2⟩ := u
      obtain ⟨q1, r1, hl⟩ := hP
      dsimp only at q1 r1 hl
      subst q1
      refine ⟨Sum.inr u1, ?_, Or.inr ⟨u1, rfl, r1, hl⟩⟩
      show fMd_shoesFor_L16_F (fMd_shoesFor_L16 n) u1 (nI q) x (nI 36) = _
      rw [fMd_shoesFor_L16_F, if_pos nI_ge36])
  have eR' : fMd_shoesFor_L16 FU M1 (nI q) x 0 = some R := eR
  have base : fMd_shoesFor M (nI q) x = Sum.elim (fun r0 => some r0) (fun o10 => fMd_shoesFor_L53 FU o10 (nI q) x 0) R := by
    rw [fMd_shoesFor, e0', Option.bind_some, if_pos rfl]
    dsimp only
    rw [eR', Option.bind_some]
  rcases hR1 with ⟨c, M2, rfl, c36, z, y, hl, r2⟩ | ⟨M2, rfl, r2, no1⟩
  · exact ⟨1, nI c, M2, Or.inr (Or.inl ⟨y0, c, c36, z, y, hl, rfl, rfl⟩), base, r2⟩
  have inner : ∀ (i : Nat) (u0 : Mem), i < 36 → Rest M0 u0 → ∃ R, fMd_shoesFor_L64 FU u0 (nI q) x (nI i) (nI i + 1) = some R ∧ ((∃ j M4, R = Sum.inl (nI (36 * i + j), M4) ∧ i < j ∧ j < 36 ∧ ¬ s.2.1 i = 1 ∧ ¬ s.2.1 j = 1 ∧ ¬ hv W s q t (some i) (some j) < X ∧ (∀ l, i < l → l < j → s.2.1 i = 1 ∨ s.2.1 l = 1 ∨ hv W s q t (some i) (some l) < X) ∧ Rest M0 M4) ∨ (∃ M4, R = Sum.inr M4 ∧ Rest M0 M4 ∧ ∀ l, i < l → l < 36 → s.2.1 i = 1 ∨ s.2.1 l = 1 ∨ hv W s q t (some i) (some l) < X)) := fun i u0 hi r0 => by
    obtain ⟨R, eR, hR⟩ := loopG (σ := Mem × Int32) (fun n u => fMd_shoesFor_L64 n u.1 (nI q) x (nI i) u.2) (fun j u => u.2 = nI j ∧ Rest M0 u.1 ∧ i < j ∧ ∀ l, i < l → l < j → s.2.1 i = 1 ∨ s.2.1 l = 1 ∨ hv W s q t (some i) (some l) < X) (fun R => (∃ j M4, R = Sum.inl (nI (36 * i + j), M4) ∧ i < j ∧ j < 36 ∧ ¬ s.2.1 i = 1 ∧ ¬ s.2.1 j = 1 ∧ ¬ hv W s q t (some i) (some j) < X ∧ (∀ l, i < l → l < j → s.2.1 i = 1 ∨ s.2.1 l = 1 ∨ hv W s q t (some i) (some l) < X) ∧ Rest M0 M4) ∨ (∃ M4, R = Sum.inr M4 ∧ Rest M0 M4 ∧ ∀ l, i < l → l < 36 → s.2.1 i = 1 ∨ s.2.1 l = 1 ∨ hv W s q t (some i) (some l) < X)) 36
      (fun n j u hj hP => by
        obtain ⟨u1, u2⟩ := u
        obtain ⟨q1, r1, hij, hl⟩ := hP
        dsimp only at q1 r1 hl
        subst q1
        obtain ⟨v, M3, e, r3, hv1⟩ := hung u1 r1 (some i) (some j) hi hj
        have e' : fMd_isHung u1 (nI q) x (nI i) (nI j) = some (v, M3) := e
        have base : fMd_shoesFor_L64 (n + 1) u1 (nI q) x (nI i) (nI j) = if s.2.1 i = 1 then fMd_shoesFor_L64 n u1 (nI q) x (nI i) (nI (j + 1)) else if s.2.1 j = 1 then fMd_shoesFor_L64 n u1 (nI q) x (nI i) (nI (j + 1)) else if v = 0 then fMd_shoesFor_L64 n M3 (nI q) x (nI i) (nI (j + 1)) else some (Sum.inl (nI (36 * i + j), M3)) := by
          show fMd_shoesFor_L64_F (fMd_shoesFor_L64 n) u1 (nI q) x (nI i) (nI j) = _
          rw [fMd_shoesFor_L64_F, if_neg (nI_lt36 hj), rdI_n hi (by omega), Option.bind_some, rd u1 r1 i hi, rdI_n hj (by omega), Option.bind_some, rd u1 r1 j hj, e', Option.bind_some, e36, nI_1]
        have ext : (s.2.1 i = 1 ∨ s.2.1 j = 1 ∨ hv W s q t (some i) (some j) < X) → ∀ l, i < l → l < j + 1 → s.2.1 i = 1 ∨ s.2.1 l = 1 ∨ hv W s q t (some i) (some l) < X := fun h l h1 h2 => by
          rcases Nat.lt_or_ge l j with w | w
          · exact hl l h1 w
          · obtain rfl : l = j := by omega
            exact h
        by_cases z1 : s.2.1 i = 1
        · right
          exact ⟨(u1, nI (j + 1)), ⟨rfl, r1, by omega, ext (Or.inl z1)⟩, by dsimp only; rw [base, if_pos z1]⟩
        · by_cases z2 : s.2.1 j = 1
          · right
            exact ⟨(u1, nI (j + 1)), ⟨rfl, r1, by omega, ext (Or.inr (Or.inl z2))⟩, by dsimp only; rw [base, if_neg z1, if_pos z2]⟩
          · rcases hv1 with ⟨rfl, y⟩ | ⟨rfl, y⟩
            · right
              exact ⟨(M3, nI (j + 1)), ⟨rfl, r3, by omega, ext (Or.inr (Or.inr y))⟩, by dsimp only; rw [base, if_neg z1, if_neg z2, if_pos rfl]⟩
            · left
              exact ⟨_, by dsimp only; rw [base, if_neg z1, if_neg z2, if_neg (by decide)], Or.inl ⟨j, M3, rfl, hij, hj, z1, z2, y, hl, r3⟩⟩)
      (fun n u hP => by
        obtain ⟨u1, u2⟩ := u
        obtain ⟨q1, r1, hij, hl⟩ := hP
        dsimp only at q1 r1 hl
        subst q1
        refine ⟨Sum.inr u1, ?_, Or.inr ⟨u1, rfl, r1, hl⟩⟩
        show fMd_shoesFor_L64_F (fMd_shoesFor_L64 n) u1 (nI q) x (nI i) (nI 36) = _
        rw [fMd_shoesFor_L64_F, if_pos nI_ge36]) (36 - (i + 1)) (i + 1) (u0, nI (i + 1)) FU rfl (by omega) (fu_lt (by omega)) ⟨rfl, r0, by omega, fun l h1 h2 => by omega⟩
    exact ⟨R, by rw [nI_1]; exact eR, hR⟩
  obtain ⟨R, eR2, hR⟩ := loop0 (σ := Mem × Int32) (fun n u => fMd_shoesFor_L53 n u.1 (nI q) x u.2) (fun i u => u.2 = nI i ∧ Rest M0 u.1 ∧ ∀ c d, c < i → c < d → d < 36 → s.2.1 c = 1 ∨ s.2.1 d = 1 ∨ hv W s q t (some c) (some d) < X) (fun R => Rest M0 R.2 ∧ ∃ k, OutS W s q t X k R.1) 36 (fu_lt (by omega)) (M2, 0) ⟨rfl, r2, fun c d hc => absurd hc (Nat.not_lt_zero c)⟩
    (fun n i u hi hP => by
      obtain ⟨u1, u2⟩ := u
      obtain ⟨q1, r1, hl⟩ := hP
      dsimp only at q1 r1 hl
      subst q1
      obtain ⟨R, e, hR⟩ := inner i u1 hi r1
      have base : fMd_shoesFor_L53 (n + 1) u1 (nI q) x (nI i) = Sum.elim (fun r0 => some r0) (fun o21 => fMd_shoesFor_L53 n o21 (nI q) x (nI (i + 1))) R := by
        show fMd_shoesFor_L53_F (fMd_shoesFor_L53 n) u1 (nI q) x (nI i) = _
        rw [fMd_shoesFor_L53_F, if_neg (nI_lt36 hi), e, Option.bind_some, nI_1]
      rcases hR with ⟨j, M4, rfl, a1, a2, a3, a4, a5, a6, a7⟩ | ⟨M4, rfl, a1, a5⟩
      · left
        refine ⟨(nI (36 * i + j), M4), by dsimp only; rw [base]; rfl, a7, 2, Or.inr (Or.inr (Or.inl ⟨y0, no1, i, j, a1, a2, a3, a4, a5, fun a b hab hb hlt => ?_, rfl, rfl⟩))⟩
        rcases hlt with z | ⟨z, w⟩
        · exact hl a b z hab hb
        · rw [z]; exact a6 b (by omega) w
      · right
        refine ⟨(M4, nI (i + 1)), ⟨rfl, a1, fun j l hj hjl hl' => ?_⟩, by dsimp only; rw [base]; rfl⟩
        rcases Nat.lt_or_ge j i with w | w
        · exact hl j l w hjl hl'
        · obtain rfl : j = i := by omega
          exact a5 l hjl hl')
    (fun n u hP => by
      obtain ⟨u1, u2⟩ := u
      obtain ⟨q1, r1, hl⟩ := hP
      dsimp only at q1 r1 hl
      subst q1
      refine ⟨(-2, u1), ?_, r1, -2, Or.inr (Or.inr (Or.inr ⟨y0, no1, fun c d hcd hd => hl c d (by omega) hcd hd, rfl, rfl⟩))⟩
      show fMd_shoesFor_L53_F (fMd_shoesFor_L53 n) u1 (nI q) x (nI 36) = _
      rw [fMd_shoesFor_L53_F, if_pos nI_ge36])
  obtain ⟨r, M3⟩ := R
  obtain ⟨r3, k, hk⟩ := hR
  dsimp only at r3 hk
  exact ⟨k, r, M3, hk, by rw [base]; exact eR2, r3⟩
theorem howMany_m {W : Wd} (hW : okW W) {s : St} (hs : okS W.1 s) {M : Mem} (hC : MW W M) (hV : VM W.1 M s) {q t : Nat} (hq : q < W.1) (ht : t ≤ 1000) (x X : Int32) (ex : x / 10000 = nI t) (eX : rmI x 10000 = X) : ∃ k r M1, OutS W s q t X k r ∧ fMd_howMany M (nI q) x = some (k, M1) ∧ Rest M M1 := by
  have rd : ∀ u, Rest M u → ∀ c, c < 36 → u.1 69 c = s.2.1 c := fun u r c hc => by rw [(r.2.1 c hc).2]; exact hV.2.1 c hc
  have hung : ∀ u, Rest M u → ∀ a b : Option Nat, okA a → okA b → ∃ v M1, fMd_isHung u (nI q) x (oneI a) (oneI b) = some (v, M1) ∧ Rest M M1 ∧ (v = 0 ∧ hv W s q t a b < X ∨ v = 1 ∧ ¬ hv W s q t a b < X) := fun u r a b ha hb => hung_m hW hs hC hV r hq ht x X ex eX a b ha hb
  obtain ⟨v0, M1, e0, r0, h0⟩ := hung M (Rest.rf M) none none trivial trivial
  have e0' : fMd_isHung M (nI q) x (-1) (-1) = some (v0, M1) := e0
  rcases h0 with ⟨rfl, y0⟩ | ⟨rfl, y0⟩
  case inr => exact ⟨0, -9, M1, Or.inl ⟨y0, rfl, rfl⟩, by rw [fMd_howMany, e0', Option.bind_some, if_neg (show ¬ (1 : Int32) = 0 by decide)], r0⟩
  obtain ⟨R, eR, r1, r, hr⟩ := loop0 (σ := Mem × Int32) (fun n u => fMd_howMany_L15 n u.1 (nI q) x u.2) (fun i u => u.2 = nI i ∧ Rest M u.1 ∧ ∀ c, c < i → s.2.1 c = 1 ∨ hv W s q t (some c) none < X) (fun R => Rest M R.2 ∧ ∃ r, OutS W s q t X R.1 r) 36 (fu_lt (by omega)) (M1, 0) ⟨rfl, r0, fun c hc => absurd hc (Nat.not_lt_zero c)⟩
    (fun n i u hi hP => by
      obtain ⟨u1, u2⟩ := u
      obtain ⟨q1, r1, hl⟩ := hP
      dsimp only at q1 r1 hl
      subst q1
      obtain ⟨v, M2, e, r2, hv1⟩ := hung u1 r1 (some i) none hi trivial
      have e' : fMd_isHung u1 (nI q) x (nI i) (-1) = some (v, M2) := e
      have base : fMd_howMany_L15 (n + 1) u1 (nI q) x (nI i) = if s.2.1 i = 1 then fMd_howMany_L15 n u1 (nI q) x (nI (i + 1)) else if v = 0 then fMd_howMany_L15 n M2 (nI q) x (nI (i + 1)) else some (1, M2) := by
        show fMd_howMany_L15_F (fMd_howMany_L15 n) u1 (nI q) x (nI i) = _
        rw [fMd_howMany_L15_F, if_neg (nI_lt36 hi), rdI_n hi (by omega), Option.bind_some, rd u1 r1 i hi, e', Option.bind_some, nI_1]
      have ext : (s.2.1 i = 1 ∨ hv W s q t (some i) none < X) → ∀ c, c < i + 1 → s.2.1 c = 1 ∨ hv W s q t (some c) none < X := fun h c hc => by
        rcases Nat.lt_or_ge c i with w | w
        · exact hl c w
        · obtain rfl : c = i := by omega
          exact h
      by_cases z : s.2.1 i = 1
      · right
        exact ⟨(u1, nI (i + 1)), ⟨rfl, r1, ext (Or.inl z)⟩, by dsimp only; rw [base, if_pos z]⟩
      · rcases hv1 with ⟨rfl, y⟩ | ⟨rfl, y⟩
        · right
          exact ⟨(M2, nI (i + 1)), ⟨rfl, r2, ext (Or.inr y)⟩, by dsimp only; rw [base, if_neg z, if_pos rfl]⟩
        · left
          exact ⟨(1, M2), by dsimp only; rw [base, if_neg z, if_neg (by decide)], r2, nI i, Or.inr (Or.inl ⟨y0, i, hi, z, y, hl, rfl, rfl⟩)⟩)
    (fun n u hP => by
      obtain ⟨u1, u2⟩ := u
      obtain ⟨q1, r1, hl⟩ := hP
      dsimp only at q1 r1 hl
      subst q1
      obtain ⟨k, r, M3, ho, e3, r3⟩ := shoesFor_m hW hs hC hV r1 hq ht x X ex eX
      have base : fMd_howMany_L15 (n + 1) u1 (nI q) x (nI 36) = if ¬ r = -2 then some (2, M3) else some (-2, M3) := by
        show fMd_howMany_L15_F (fMd_howMany_L15 n) u1 (nI q) x (nI 36) = _
        rw [fMd_howMany_L15_F, if_pos nI_ge36, e3, Option.bind_some]
      have ho' := ho
      rcases ho with ⟨a1, -⟩ | ⟨a1, c, a2, a3, a4, -⟩ | ⟨a1, a2, c, d, a3, a4, -, -, -, -, ek, er⟩ | ⟨a1, a2, a3, ek, er⟩
      · exact absurd y0 a1
      · exact absurd (hl c a2) (fun w => w.elim a3 a4)
      · refine ⟨(2, M3), ?_, r3, r, by rw [← ek]; exact ho'⟩
        have : ¬ r = -2 := by rw [er]; exact m2_ne (by omega)
        dsimp only
        rw [base, if_pos this]
      · refine ⟨(-2, M3), ?_, r3, r, by rw [← ek]; exact ho'⟩
        dsimp only
        rw [base, if_neg (fun z => z er)])
  obtain ⟨k, M2⟩ := R
  dsimp only at r1 hr
  have eR' : fMd_howMany_L15 FU M1 (nI q) x 0 = some (k, M2) := eR
  exact ⟨k, r, M2, hr, by rw [fMd_howMany, e0', Option.bind_some, if_pos rfl]; exact eR', r1⟩
theorem s_shoes (x y z : Int32) : Sim (fun M => fSh_shoes M x y z) (fun M => fMd_shoes M x y z) := by
  rintro M hI
  have o1 : ¬ (1 : Int32) = 0 := by decide
  have hI0 := hI
  obtain ⟨p, n, hN, hT, hD, hIm, hC, hB, hS, hZ, hL⟩ := hI
  obtain ⟨L, w1, wh, w2, w3, w4, w5, w6⟩ := inv_wh hN hL
  have hz0 : Zr M := fun i hi => (hZ i hi).2
  rcases pers_cases p hN.1 x with g | ⟨q, hq, rfl, g⟩
  · have g1 : fWorld_isPerson M x = 0 := (pers_c w2 x).trans g
    have g2 : fMd_isOne M x = 0 := (pers_m w1 w3 x).trans g
    exact ⟨-1, M, M, by simp [fSh_shoes, g1], by simp [fMd_shoes, g2], hI0⟩
  have g1 : fWorld_isPerson M (nI q) = 1 := (pers_c w2 _).trans g
  by_cases hy : y < 0
  · have g2 : fMd_isOne M (nI q) = 1 := (pers_m w1 w3 _).trans g
    exact ⟨-1, M, M, by simp [fSh_shoes, g1, hy], by simp [fMd_shoes, g2, hy], hI0⟩
  by_cases ht : 12 < y / 10000
  · have g2 : fMd_isOne M (nI q) = 1 := (pers_m w1 w3 _).trans g
    exact ⟨-1, M, M, by simp [fSh_shoes, g1, hy, ht], by simp [fMd_shoes, g2, hy, ht], hI0⟩
  have e4 : ∃ t : Nat, t ≤ 12 ∧ y / 10000 = nI t := by
    obtain ⟨j, hj, rfl⟩ := nI_of hy
    have e : (10000 : Int32) = nI 10000 := rfl
    have d : nI j / 10000 = nI (j / 10000) := by rw [e, pk_div hj (by omega) (by omega)]
    rw [d] at ht ⊢
    refine ⟨j / 10000, ?_, rfl⟩
    rcases Nat.lt_or_ge 12 (j / 10000) with w | w
    · exact absurd ((ltL (b := 12) 12 rfl (by omega) (by omega)).mpr w) ht
    · exact w
  obtain ⟨t, ht12, et⟩ := e4
  rcases two_cases z with ⟨hz, w⟩ | hzz
  · have g2 : fMd_isOne M (nI q) = 1 := (pers_m w1 w3 _).trans g
    refine ⟨-1, M, M, ?_, by simp [fMd_shoes, g2, hy, ht, w], hI0⟩
    simp only [fSh_shoes, g1, hy, ht, o1, if_false]
    by_cases q : z < 0
    · simp [q]
    · simp [q, hz.resolve_left q]
  obtain ⟨k, r, M1, ho, e1, a1, a2, a3⟩ := fewest_c w1 wh w4 w2 w5 hz0 hq (by omega : t ≤ 1000) (rmI y 10000)
  have C1 : MW (nowW p L M) M1 := w3.kp a1 (fun a i h => by unfold PTc PG at h; omega) w1.1
  have V1 : VM p M1 (nowS M) := w6.kp w1.1 a1 (fun a i h => by unfold PTc PG at h; omega)
  have g2 : fMd_isOne M1 (nI q) = 1 := (pers_m w1 C1 _).trans g
  have z0 : ¬ z < 0 := by rcases hzz with ⟨rfl, -⟩ | ⟨rfl, -⟩ <;> decide
  have z1 : z ≤ 1 := by rcases hzz with ⟨rfl, -⟩ | ⟨rfl, -⟩ <;> decide
  have w : fMd_within z 0 1 = 1 := by rcases hzz with ⟨-, w⟩ | ⟨-, w⟩ <;> exact w
  have baseC : fSh_shoes M (nI q) y z = if z = 0 then some (k, M1) else if ¬ k = -2 then some (M1.1 12 2, M1) else some (k, M1) := by
    rw [fSh_shoes, g1, if_neg o1, if_neg hy, if_neg ht, if_neg z0, if_pos z1, et, e1, Option.bind_some]
  have baseM : fMd_shoes M1 (nI q) y z = if ¬ z = 0 then Option.bind (fMd_shoesFor M1 (nI q) y) fun q8 => some (q8.1, q8.2) else Option.bind (fMd_howMany M1 (nI q) y) fun q10 => some (q10.1, q10.2) := by
    rw [fMd_shoes, g2, if_neg o1, if_neg hy, if_neg ht, w, if_pos o1]
  rcases hzz with ⟨rfl, -⟩ | ⟨rfl, -⟩
  · obtain ⟨k', r', M2, ho', e2, b1⟩ := howMany_m w1 w4 C1 V1 hq (by omega : t ≤ 1000) y (rmI y 10000) et rfl
    obtain ⟨rfl, rfl⟩ := out_un ho ho'
    exact ⟨k, M1, M2, by dsimp only; rw [baseC, if_pos rfl], by dsimp only; rw [baseM, if_neg (fun v => v rfl), e2, Option.bind_some], think_inv hI0 a1 a2 b1⟩
  · obtain ⟨k', r', M2, ho', e2, b1⟩ := shoesFor_m w1 w4 C1 V1 (Rest.rf M1) hq (by omega : t ≤ 1000) y (rmI y 10000) et rfl
    obtain ⟨rfl, rfl⟩ := out_un ho ho'
    refine ⟨r, M1, M2, ?_, by dsimp only; rw [baseM, if_pos o1, e2, Option.bind_some], think_inv hI0 a1 a2 b1⟩
    dsimp only
    rw [baseC, if_neg o1]
    by_cases v : k = -2
    · rw [if_neg (fun u => u v)]
      rcases ho with ⟨-, ek, -⟩ | ⟨-, c, -, -, -, -, ek, -⟩ | ⟨-, -, c, d, -, -, -, -, -, -, ek, -⟩ | ⟨-, -, -, ek, er⟩
      · rw [ek] at v; exact absurd v (by decide)
      · rw [ek] at v; exact absurd v (by decide)
      · rw [ek] at v; exact absurd v (by decide)
      · rw [ek, er]
    · rw [if_pos v, a3.resolve_left v]
