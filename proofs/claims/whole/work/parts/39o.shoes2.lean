def hv (W : Wd) (s : St) (q t : Nat) (a b : Option Nat) : Int32 := (stN W t (hgS s a b)).2.2.2.1 q
def OutS (W : Wd) (s : St) (q t : Nat) (X k r : Int32) : Prop := OutR (hv W s q t none none) (fun c => hv W s q t (some c) none) (fun c d => hv W s q t (some c) (some d)) X s.2.1 k r
theorem fewest_c {W : Wd} (hW : okW W) (hH : okH W) {s : St} (hs : okS W.1 s) {M : Mem} (hC : CW W M) (hV : VS W.1 36 M s) (hz : Zr M) {q t : Nat} (hq : q < W.1) (ht : t ≤ 1000) (X : Int32) : ∃ k r M1, OutS W s q t X k r ∧ fThought_fewestShoes M (nI q) (nI t) X = some (k, M1) ∧ Kp PTc M M1 ∧ Zr M1 ∧ (k = -2 ∨ M1.1 12 2 = r) := by
  have p8 := hW.1
  obtain ⟨e, he, hce⟩ := hs.2.2.1 q hq
  have ind1 : ∀ c, ¬ Str W c e → hv W s q t (some c) none = hv W s q t none none := fun c h => (has_agr hW hH he hq hce hs (agr_shoe s 1 h) t).symm
  have ind2 : ∀ c d, ¬ Str W c e → hv W s q t (some c) (some d) = hv W s q t (some d) none := fun c d h => (has_agr (s := shoeS s d 1) hW hH he hq hce (shoe_ok hs d r2_1) (agr_shoe2 s 1 1 h) t).symm
  have ind3 : ∀ c d, ¬ Str W d e → hv W s q t (some c) (some d) = hv W s q t (some c) none := fun c d h => (has_agr (s := shoeS s c 1) hW hH he hq hce (shoe_ok hs c r2_1) (agr_shoe (shoeS s c 1) 1 h) t).symm
  have K0 : Kp PTc M (wI M 12 2 (-9)) := Kp.w _ _ (by unfold PTc; omega)
  have C0 : CW W (wI M 12 2 (-9)) := hC.kp (Kp.w (P := fun a i => a = 12) M (-9) rfl) (fun a i h => by omega)
  obtain ⟨M1, b1, k1, c1, z1, kq1⟩ := hasBy_c hW hs K0 C0 hV hz hq ht none none trivial trivial
  have b1' : fThought_hasBy (wI M 12 2 (-9)) (-1) (-1) (nI q) (nI t) = some (hv W s q t none none, M1) := b1
  have m12 : M1.1 12 2 = -9 := by rw [kq1.1 12 2 (by unfold PQ PG; omega)]; rfl
  by_cases y0 : hv W s q t none none < X
  case neg =>
    refine ⟨0, -9, M1, Or.inl ⟨y0, rfl, rfl⟩, ?_, k1, z1, Or.inr m12⟩
    rw [fThought_fewestShoes, b1', Option.bind_some, if_neg y0]
  have V1 : VS W.1 36 M1 s := hV.kp k1 (fun a i h => by unfold PTc PG at h; omega)
  have ecell : M1.1 (36 + 3) q = nI e := by rw [← hce]; exact V1.2.2.1 q hq
  obtain ⟨k, M2, hk, b2, k2, c2, z2, ⟨-, ca, ca1, ca2, ca3⟩, -⟩ := cand_c hH k1 c1 V1 z1 he
  have cas : ∀ j, j < k → ca j < 36 := fun j hj => (ca1 j hj).2.1
  have str1 : ∀ c, c < 36 → ¬ s.2.1 c = 1 → ¬ hv W s q t (some c) none < X → ∃ j, j < k ∧ ca j = c := fun c hc h1 h2 => by
    refine ca3 c hc ⟨h1, ?_⟩
    by_cases z : Str W c e
    · exact z
    · exact absurd (by rw [ind1 c z]; exact y0) h2
  have mono : ∀ j l, j < k → l < k → (ca j < ca l ↔ j < l) := fun j l hj hl => by
    constructor
    · intro h
      rcases Nat.lt_trichotomy j l with z | z | z
      · exact z
      · rw [z] at h; omega
      · have := ca2 l j z hj; omega
    · intro h; exact ca2 j l h hl
  -- one shoe
  obtain ⟨R, eR, hR⟩ := loop0 (σ := Mem × Int32) (fun n u => fThought_fewestShoes_L41 n u.1 (nI q) (nI t) X (nI k) u.2) (fun i u => u.2 = nI i ∧ Kp PTc M u.1 ∧ CW W u.1 ∧ Zr u.1 ∧ u.1.1 13 = M2.1 13 ∧ ∀ l, l < i → hv W s q t (some (ca l)) none < X) (fun R => (∃ j M3, R = Sum.inl (1, M3) ∧ j < k ∧ ¬ hv W s q t (some (ca j)) none < X ∧ (∀ l, l < j → hv W s q t (some (ca l)) none < X) ∧ Kp PTc M M3 ∧ Zr M3 ∧ M3.1 12 2 = nI (ca j)) ∨ (∃ M3, R = Sum.inr M3 ∧ Kp PTc M M3 ∧ CW W M3 ∧ Zr M3 ∧ M3.1 13 = M2.1 13 ∧ ∀ l, l < k → hv W s q t (some (ca l)) none < X)) k (fu_lt (by omega)) (M2, 0) ⟨rfl, k2, c2, z2, rfl, fun l hl => absurd hl (Nat.not_lt_zero l)⟩
    (fun n i u hi hP => by
      obtain ⟨u1, u2⟩ := u
      obtain ⟨q1, K, C, Z, e13, hl⟩ := hP
      dsimp only at q1 K C Z e13 hl
      subst q1
      have h0 : ¬ nI k ≤ nI i := nI_ge hi (by omega)
      have i36 : i < 36 := by omega
      have hci := cas i hi
      have ec : u1.1 13 i = nI (ca i) := by rw [e13]; exact (ca1 i hi).1
      have V : VS W.1 36 u1 s := hV.kp K (fun a i h => by unfold PTc PG at h; omega)
      obtain ⟨M3, b3, k3, c3, z3, kq3⟩ := hasBy_c hW hs K C V Z hq ht (some (ca i)) none hci trivial
      have b3' : fThought_hasBy u1 (nI (ca i)) (-1) (nI q) (nI t) = some (hv W s q t (some (ca i)) none, M3) := b3
      have f13 : M3.1 13 = u1.1 13 := kq3.f (fun i h => by unfold PQ PG at h; omega)
      have base : fThought_fewestShoes_L41 (n + 1) u1 (nI q) (nI t) X (nI k) (nI i) = if hv W s q t (some (ca i)) none < X then fThought_fewestShoes_L41 n M3 (nI q) (nI t) X (nI k) (nI (i + 1)) else some (Sum.inl (1, wI M3 12 2 (nI (ca i)))) := by
        show fThought_fewestShoes_L41_F (fThought_fewestShoes_L41 n) u1 (nI q) (nI t) X (nI k) (nI i) = _
        rw [fThought_fewestShoes_L41_F, if_neg h0, rdI_n i36 (by omega), Option.bind_some, ec, b3', Option.bind_some, rdI_n i36 (by omega), Option.bind_some, f13, ec, nI_1]
      by_cases y : hv W s q t (some (ca i)) none < X
      · right
        refine ⟨(M3, nI (i + 1)), ⟨rfl, k3, c3, z3, f13.trans e13, fun l hl' => ?_⟩, by dsimp only; rw [base, if_pos y]⟩
        rcases Nat.lt_or_ge l i with w | w
        · exact hl l w
        · obtain rfl : l = i := by omega
          exact y
      · left
        have Kw : Kp (fun a i => a = 12 ∧ i = 2) M3 (wI M3 12 2 (nI (ca i))) := Kp.w _ _ (by omega)
        refine ⟨_, by dsimp only; rw [base, if_neg y], Or.inl ⟨i, _, rfl, hi, y, hl, k3.tr (Kw.mono (fun a i h => by unfold PTc; omega)), fun j hj => ?_, rfl⟩⟩
        rw [Kw.1 _ _ (by omega), Kw.1 _ _ (by omega), Kw.1 _ _ (by omega)]
        exact z3 j hj)
    (fun n u hP => by
      obtain ⟨u1, u2⟩ := u
      obtain ⟨q1, K, C, Z, e13, hl⟩ := hP
      dsimp only at q1 K C Z e13 hl
      subst q1
      refine ⟨Sum.inr u1, ?_, Or.inr ⟨u1, rfl, K, C, Z, e13, hl⟩⟩
      show fThought_fewestShoes_L41_F (fThought_fewestShoes_L41 n) u1 (nI q) (nI t) X (nI k) (nI k) = _
      rw [fThought_fewestShoes_L41_F, if_pos (Int32.le_refl _)])
  have eR' : fThought_fewestShoes_L41 FU M2 (nI q) (nI t) X (nI k) 0 = some R := eR
  have base : fThought_fewestShoes M (nI q) (nI t) X = Sum.elim (fun r0 => some r0) (fun o13 => Option.bind (fThought_fewestShoes_L90 FU o13 (nI q) (nI t) X (nI k) 0) fun t27 => Sum.elim (fun r0 => some r0) (fun o26 => some ((-2), o26)) t27) R := by
    rw [fThought_fewestShoes, b1', Option.bind_some, if_pos y0, rdI_n (by omega) (by omega), Option.bind_some, ecell, b2, Option.bind_some]
    dsimp only
    rw [eR', Option.bind_some]
  rcases hR with ⟨j, M3, rfl, hj, hv1, hv2, K3, Z3, e3⟩ | ⟨M3, rfl, K3, C3, Z3, e13, hv2⟩
  · refine ⟨1, nI (ca j), M3, Or.inr (Or.inl ⟨y0, ca j, cas j hj, (ca1 j hj).2.2.1, hv1, fun c' hc' => ?_, rfl, rfl⟩), base, K3, Z3, Or.inr e3⟩
    by_cases z1 : s.2.1 c' = 1
    · exact Or.inl z1
    · by_cases z2 : hv W s q t (some c') none < X
      · exact Or.inr z2
      · obtain ⟨l, hl, el⟩ := str1 c' (by have := cas j hj; omega) z1 z2
        have : l < j := (mono l j hl hj).mp (by rw [el]; exact hc')
        exact absurd (hv2 l this) (by rw [el]; exact z2)
  -- no single one
  have no1 : ∀ c, c < 36 → s.2.1 c = 1 ∨ hv W s q t (some c) none < X := fun c hc => by
    by_cases z1 : s.2.1 c = 1
    · exact Or.inl z1
    · by_cases z2 : hv W s q t (some c) none < X
      · exact Or.inr z2
      · obtain ⟨l, hl, el⟩ := str1 c hc z1 z2
        exact absurd (hv2 l hl) (by rw [el]; exact z2)
  have str2 : ∀ c d, c < 36 → d < 36 → ¬ s.2.1 c = 1 → ¬ s.2.1 d = 1 → ¬ hv W s q t (some c) (some d) < X → ∃ j l, j < k ∧ l < k ∧ ca j = c ∧ ca l = d := fun c d hc hd h1 h2 h3 => by
    have sc : Str W c e := by
      by_cases z : Str W c e
      · exact z
      · exact absurd (by rw [ind2 c d z]; exact (no1 d hd).resolve_left h2) h3
    have sd : Str W d e := by
      by_cases z : Str W d e
      · exact z
      · exact absurd (by rw [ind3 c d z]; exact (no1 c hc).resolve_left h1) h3
    obtain ⟨j, hj, ej⟩ := ca3 c hc ⟨h1, sc⟩
    obtain ⟨l, hl, el⟩ := ca3 d hd ⟨h2, sd⟩
    exact ⟨j, l, hj, hl, ej, el⟩
  have e36 : ∀ a b : Nat, (36 : Int32) * nI a + nI b = nI (36 * a + b) := fun a b => by
    have : (36 : Int32) = nI 36 := rfl
    rw [this, nI_mul, nI_add]
  -- two: the inner round
  have inner : ∀ (i : Nat) (u0 : Mem), i < k → Kp PTc M u0 → CW W u0 → Zr u0 → u0.1 13 = M2.1 13 → ∃ R, fThought_fewestShoes_L103 FU u0 (nI q) (nI t) X (nI k) (nI i) (nI i + 1) = some R ∧ ((∃ j M4, R = Sum.inl (2, M4) ∧ i < j ∧ j < k ∧ ¬ hv W s q t (some (ca i)) (some (ca j)) < X ∧ (∀ l, i < l → l < j → hv W s q t (some (ca i)) (some (ca l)) < X) ∧ Kp PTc M M4 ∧ Zr M4 ∧ M4.1 12 2 = nI (36 * ca i + ca j)) ∨ (∃ M4, R = Sum.inr M4 ∧ Kp PTc M M4 ∧ CW W M4 ∧ Zr M4 ∧ M4.1 13 = M2.1 13 ∧ ∀ l, i < l → l < k → hv W s q t (some (ca i)) (some (ca l)) < X)) := fun i u0 hi K0 C0 Z0 E0 => by
    have i36 : i < 36 := by omega
    obtain ⟨R, eR, hR⟩ := loopG (σ := Mem × Int32) (fun n u => fThought_fewestShoes_L103 n u.1 (nI q) (nI t) X (nI k) (nI i) u.2) (fun j u => u.2 = nI j ∧ Kp PTc M u.1 ∧ CW W u.1 ∧ Zr u.1 ∧ u.1.1 13 = M2.1 13 ∧ i < j ∧ ∀ l, i < l → l < j → hv W s q t (some (ca i)) (some (ca l)) < X) (fun R => (∃ j M4, R = Sum.inl (2, M4) ∧ i < j ∧ j < k ∧ ¬ hv W s q t (some (ca i)) (some (ca j)) < X ∧ (∀ l, i < l → l < j → hv W s q t (some (ca i)) (some (ca l)) < X) ∧ Kp PTc M M4 ∧ Zr M4 ∧ M4.1 12 2 = nI (36 * ca i + ca j)) ∨ (∃ M4, R = Sum.inr M4 ∧ Kp PTc M M4 ∧ CW W M4 ∧ Zr M4 ∧ M4.1 13 = M2.1 13 ∧ ∀ l, i < l → l < k → hv W s q t (some (ca i)) (some (ca l)) < X)) k
      (fun n j u hj hP => by
        obtain ⟨u1, u2⟩ := u
        obtain ⟨q1, K, C, Z, e13, hij, hl⟩ := hP
        dsimp only at q1 K C Z e13 hl
        subst q1
        have h0 : ¬ nI k ≤ nI j := nI_ge hj (by omega)
        have j36 : j < 36 := by omega
        have hci := cas i hi
        have hcj := cas j hj
        have ec : u1.1 13 i = nI (ca i) := by rw [e13]; exact (ca1 i hi).1
        have ed : u1.1 13 j = nI (ca j) := by rw [e13]; exact (ca1 j hj).1
        have V : VS W.1 36 u1 s := hV.kp K (fun a i h => by unfold PTc PG at h; omega)
        obtain ⟨M3, b3, k3, c3, z3, kq3⟩ := hasBy_c hW hs K C V Z hq ht (some (ca i)) (some (ca j)) hci hcj
        have b3' : fThought_hasBy u1 (nI (ca i)) (nI (ca j)) (nI q) (nI t) = some (hv W s q t (some (ca i)) (some (ca j)), M3) := b3
        have f13 : M3.1 13 = u1.1 13 := kq3.f (fun i h => by unfold PQ PG at h; omega)
        have base : fThought_fewestShoes_L103 (n + 1) u1 (nI q) (nI t) X (nI k) (nI i) (nI j) = if hv W s q t (some (ca i)) (some (ca j)) < X then fThought_fewestShoes_L103 n M3 (nI q) (nI t) X (nI k) (nI i) (nI (j + 1)) else some (Sum.inl (2, wI M3 12 2 (nI (36 * ca i + ca j)))) := by
          show fThought_fewestShoes_L103_F (fThought_fewestShoes_L103 n) u1 (nI q) (nI t) X (nI k) (nI i) (nI j) = _
          rw [fThought_fewestShoes_L103_F, if_neg h0, rdI_n i36 (by omega), Option.bind_some, rdI_n j36 (by omega), Option.bind_some, ec, ed, b3', Option.bind_some, rdI_n i36 (by omega), Option.bind_some, rdI_n j36 (by omega), Option.bind_some, f13, ec, ed, e36, nI_1]
        by_cases y : hv W s q t (some (ca i)) (some (ca j)) < X
        · right
          refine ⟨(M3, nI (j + 1)), ⟨rfl, k3, c3, z3, f13.trans e13, by omega, fun l h1 h2 => ?_⟩, by dsimp only; rw [base, if_pos y]⟩
          rcases Nat.lt_or_ge l j with w | w
          · exact hl l h1 w
          · obtain rfl : l = j := by omega
            exact y
        · left
          have Kw : Kp (fun a i => a = 12 ∧ i = 2) M3 (wI M3 12 2 (nI (36 * ca i + ca j))) := Kp.w _ _ (by omega)
          refine ⟨_, by dsimp only; rw [base, if_neg y], Or.inl ⟨j, _, rfl, hij, hj, y, hl, k3.tr (Kw.mono (fun a i h => by unfold PTc; omega)), fun j hj => ?_, rfl⟩⟩
          rw [Kw.1 _ _ (by omega), Kw.1 _ _ (by omega), Kw.1 _ _ (by omega)]
          exact z3 j hj)
      (fun n u hP => by
        obtain ⟨u1, u2⟩ := u
        obtain ⟨q1, K, C, Z, e13, hij, hl⟩ := hP
        dsimp only at q1 K C Z e13 hl
        subst q1
        refine ⟨Sum.inr u1, ?_, Or.inr ⟨u1, rfl, K, C, Z, e13, hl⟩⟩
        show fThought_fewestShoes_L103_F (fThought_fewestShoes_L103 n) u1 (nI q) (nI t) X (nI k) (nI i) (nI k) = _
        rw [fThought_fewestShoes_L103_F, if_pos (Int32.le_refl _)]) (k - (i + 1)) (i + 1) (u0, nI (i + 1)) FU rfl (by omega) (fu_lt (by omega)) ⟨rfl, K0, C0, Z0, E0, by omega, fun l h1 h2 => by omega⟩
    exact ⟨R, by rw [nI_1]; exact eR, hR⟩
  obtain ⟨R, eR2, hR⟩ := loop0 (σ := Mem × Int32) (fun n u => fThought_fewestShoes_L90 n u.1 (nI q) (nI t) X (nI k) u.2) (fun i u => u.2 = nI i ∧ Kp PTc M u.1 ∧ CW W u.1 ∧ Zr u.1 ∧ u.1.1 13 = M2.1 13 ∧ ∀ j l, j < i → j < l → l < k → hv W s q t (some (ca j)) (some (ca l)) < X) (fun R => (∃ i j M4, R = Sum.inl (2, M4) ∧ i < j ∧ j < k ∧ ¬ hv W s q t (some (ca i)) (some (ca j)) < X ∧ (∀ a b, a < b → b < k → (a < i ∨ a = i ∧ b < j) → hv W s q t (some (ca a)) (some (ca b)) < X) ∧ Kp PTc M M4 ∧ Zr M4 ∧ M4.1 12 2 = nI (36 * ca i + ca j)) ∨ (∃ M4, R = Sum.inr M4 ∧ Kp PTc M M4 ∧ Zr M4 ∧ ∀ j l, j < l → l < k → hv W s q t (some (ca j)) (some (ca l)) < X)) k (fu_lt (by omega)) (M3, 0) ⟨rfl, K3, C3, Z3, e13, fun j l hj => absurd hj (Nat.not_lt_zero j)⟩
    (fun n i u hi hP => by
      obtain ⟨u1, u2⟩ := u
      obtain ⟨q1, K, C, Z, e13', hl⟩ := hP
      dsimp only at q1 K C Z e13' hl
      subst q1
      have h0 : ¬ nI k ≤ nI i := nI_ge hi (by omega)
      obtain ⟨R, e, hR⟩ := inner i u1 hi K C Z e13'
      have base : fThought_fewestShoes_L90 (n + 1) u1 (nI q) (nI t) X (nI k) (nI i) = Sum.elim (fun r0 => some (Sum.inl r0)) (fun o24 => fThought_fewestShoes_L90 n o24 (nI q) (nI t) X (nI k) (nI (i + 1))) R := by
        show fThought_fewestShoes_L90_F (fThought_fewestShoes_L90 n) u1 (nI q) (nI t) X (nI k) (nI i) = _
        rw [fThought_fewestShoes_L90_F, if_neg h0, e, Option.bind_some, nI_1]
      rcases hR with ⟨j, M4, rfl, a1, a2, a3, a4, a5, a6, a7⟩ | ⟨M4, rfl, a1, a2, a3, a4, a5⟩
      · left
        refine ⟨_, by dsimp only; rw [base]; rfl, Or.inl ⟨i, j, M4, rfl, a1, a2, a3, fun a b hab hb hlt => ?_, a5, a6, a7⟩⟩
        rcases hlt with z | ⟨z, w⟩
        · exact hl a b z hab hb
        · rw [z]; exact a4 b (by omega) w
      · right
        refine ⟨(M4, nI (i + 1)), ⟨rfl, a1, a2, a3, a4, fun j l hj hjl hl' => ?_⟩, by dsimp only; rw [base]; rfl⟩
        rcases Nat.lt_or_ge j i with w | w
        · exact hl j l w hjl hl'
        · obtain rfl : j = i := by omega
          exact a5 l hjl hl')
    (fun n u hP => by
      obtain ⟨u1, u2⟩ := u
      obtain ⟨q1, K, C, Z, e13', hl⟩ := hP
      dsimp only at q1 K C Z e13' hl
      subst q1
      refine ⟨Sum.inr u1, ?_, Or.inr ⟨u1, rfl, K, Z, fun j l hjl hl' => hl j l (by omega) hjl hl'⟩⟩
      show fThought_fewestShoes_L90_F (fThought_fewestShoes_L90 n) u1 (nI q) (nI t) X (nI k) (nI k) = _
      rw [fThought_fewestShoes_L90_F, if_pos (Int32.le_refl _)])
  have eR2' : fThought_fewestShoes_L90 FU M3 (nI q) (nI t) X (nI k) 0 = some R := eR2
  have base2 : fThought_fewestShoes M (nI q) (nI t) X = Sum.elim (fun r0 => some r0) (fun o26 => some ((-2), o26)) R := by
    rw [base]
    show Option.bind (fThought_fewestShoes_L90 FU M3 (nI q) (nI t) X (nI k) 0) _ = _
    rw [eR2', Option.bind_some]
  rcases hR with ⟨i, j, M4, rfl, a1, a2, a3, a4, a5, a6, a7⟩ | ⟨M4, rfl, a1, a2, a3⟩
  · have hi : i < k := by omega
    refine ⟨2, nI (36 * ca i + ca j), M4, Or.inr (Or.inr (Or.inl ⟨y0, no1, ca i, ca j, ca2 i j a1 a2, cas j a2, (ca1 i hi).2.2.1, (ca1 j a2).2.2.1, a3, fun c' d' hcd hd hlt => ?_, rfl, rfl⟩)), base2, a5, a6, Or.inr a7⟩
    by_cases z1 : s.2.1 c' = 1
    · exact Or.inl z1
    · by_cases z2 : s.2.1 d' = 1
      · exact Or.inr (Or.inl z2)
      · by_cases z3 : hv W s q t (some c') (some d') < X
        · exact Or.inr (Or.inr z3)
        · obtain ⟨a, b, ha, hb, ea, eb⟩ := str2 c' d' (by omega) hd z1 z2 z3
          have hab : a < b := (mono a b ha hb).mp (by rw [ea, eb]; exact hcd)
          have hlt2 : a < i ∨ a = i ∧ b < j := by
            rcases hlt with w | ⟨w1, w2⟩
            · exact Or.inl ((mono a i ha hi).mp (by rw [ea]; exact w))
            · right
              have e1 : a = i := by
                rcases Nat.lt_trichotomy a i with v | v | v
                · have := (mono a i ha hi).mpr v; omega
                · exact v
                · have := (mono i a hi ha).mpr v; omega
              exact ⟨e1, (mono b j hb a2).mp (by rw [eb]; exact w2)⟩
          exact absurd (a4 a b hab hb hlt2) (by rw [ea, eb]; exact z3)
  · refine ⟨-2, -2, M4, Or.inr (Or.inr (Or.inr ⟨y0, no1, fun c d hcd hd => ?_, rfl, rfl⟩)), base2, a1, a2, Or.inl rfl⟩
    by_cases z1 : s.2.1 c = 1
    · exact Or.inl z1
    · by_cases z2 : s.2.1 d = 1
      · exact Or.inr (Or.inl z2)
      · by_cases z3 : hv W s q t (some c) (some d) < X
        · exact Or.inr (Or.inr z3)
        · obtain ⟨a, b, ha, hb, ea, eb⟩ := str2 c d (by omega) hd z1 z2 z3
          have hab : a < b := (mono a b ha hb).mp (by rw [ea, eb]; exact hcd)
          exact absurd (a3 a b hab hb) (by rw [ea, eb]; exact z3)
