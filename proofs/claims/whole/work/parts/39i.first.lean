/-! AT FIRST: by how many LUCKS, the least -/
def nf (f : Nat → Int32) : Nat → Nat
  | 0 => 0
  | k + 1 => if f k = -2 then nf f k + 1 else nf f k
theorem nf_le (f : Nat → Int32) : ∀ k, nf f k ≤ k := by
  intro k
  induction k with
  | zero => exact Nat.le_refl _
  | succ k ih => rw [nf]; split <;> omega
theorem nf_mono (f : Nat → Int32) : ∀ k m, k ≤ m → nf f k ≤ nf f m := by
  intro k m h
  induction m with
  | zero => have : k = 0 := by omega
            rw [this]; exact Nat.le_refl _
  | succ m ih =>
    rcases Nat.lt_or_ge m k with q | q
    · have : k = m + 1 := by omega
      rw [this]; exact Nat.le_refl _
    · have := ih q
      rw [nf]; split <;> omega
theorem nf_0 (f : Nat → Int32) : ∀ k, nf f k = 0 ↔ ∀ j, j < k → ¬ f j = -2 := by
  intro k
  induction k with
  | zero => exact ⟨fun _ j hj => absurd hj (Nat.not_lt_zero j), fun _ => rfl⟩
  | succ k ih =>
    rw [nf]
    by_cases q : f k = -2
    · rw [if_pos q]
      exact ⟨fun h => by omega, fun h => absurd q (h k (by omega))⟩
    · rw [if_neg q, ih]
      constructor
      · intro h j hj
        rcases Nat.lt_or_ge j k with z | z
        · exact h j z
        · have : j = k := by omega
          rw [this]; exact q
      · exact fun h j hj => h j (by omega)
theorem nf_all {f : Nat → Int32} : ∀ k, (∀ j, j < k → f j = -2) → nf f k = k := by
  intro k
  induction k with
  | zero => intro _; rfl
  | succ k ih => intro h; rw [nf, if_pos (h k (by omega)), ih (fun j hj => h j (by omega))]
theorem first_c {W : Wd} (hW : okW W) (hH : okH W) {s : St} (hs : okS W.1 s) {M : Mem} (hC : CW W M) (hV : VS W.1 36 M s) (hz : Zr M) {sh k c d : Nat} (rw_ : Nat → Int64) (hrow : ∀ i, i < 60 → M.2.1 (27 + sh) i = rw_ i) (hel : ∀ i, i < 60 → okEl 1 (rw_ i)) (hk : k ≤ 60) (hc : c < 36) (hd : d < 36) (f : Nat → Int32) (hf : ∀ j, FirstR (Bad W (setS 68 s d (nI j)) c rw_) (min k 49) (f j)) : ∃ M1, fThought_fittingLucks M (27 + sh) (nI k) (nI c) (nI d) = some (nI (nf f 100), M1) ∧ Kp PTc M M1 ∧ Zr M1 ∧ FirstR (fun j => f j = -2) 100 (M1.1 12 4) := by
  have K0 : Kp PTc M (wI M 12 4 (-2)) := Kp.w _ _ (by unfold PTc; omega)
  have C0 : CW W (wI M 12 4 (-2)) := hC.kp (Kp.w (P := fun a i => a = 12) M (-2) rfl) (fun a i h => by omega)
  have Z0 : Zr (wI M 12 4 (-2)) := hz
  obtain ⟨v, ev, hv⟩ := rch_c hH C0 hd hc
  rcases hv with ⟨rfl, hv⟩ | ⟨rfl, hv⟩
  · obtain ⟨R, eR, h1, h2, h3, h4⟩ := loop0 (σ := Mem × Int32 × Int32) (fun j t => fThought_fittingLucks_L74 j t.1 (27 + sh) (nI k) (nI c) (nI d) t.2.1 t.2.2) (fun i t => t.2 = (nI (nf f i), nI i) ∧ Kp PTc M t.1 ∧ CW W t.1 ∧ Zr t.1 ∧ FirstR (fun j => f j = -2) i (t.1.1 12 4)) (fun R => R.2 = nI (nf f 100) ∧ Kp PTc M R.1 ∧ Zr R.1 ∧ FirstR (fun j => f j = -2) 100 (R.1.1 12 4)) 100 (fu_lt (by omega)) (wI M 12 4 (-2), 0, 0) ⟨rfl, K0, C0, Z0, Or.inr ⟨rfl, fun m hm => absurd hm (Nat.not_lt_zero m)⟩⟩
      (fun j i t hi hP => by
        obtain ⟨u1, u2⟩ := t
        obtain ⟨e2, K, C1, Z1, F1⟩ := hP
        dsimp only at e2 K C1 Z1 F1
        subst e2
        right
        have V1 : VS W.1 36 u1 s := hV.kp K (fun a i h => by unfold PTc PG at h; omega)
        obtain ⟨M2, b2, T2, K2⟩ := begin_k hW K C1 V1 Z1
        have T3 := T2.set (a := 68) (Or.inl rfl) d (nI i)
        have hs3 : okS W.1 (setS 68 s d (nI i)) := luck_ok hs d (r9999.mpr ⟨i, by omega, rfl⟩)
        obtain ⟨r, M4, m, f1, f2, f3, f4⟩ := fw_c hW hs3 T3 rw_ hrow hel hk hc
        have er := first_un f1 (hf i)
        have h0 : ¬ (100 : Int32) ≤ nI i := nI_geL (b := 100) 100 rfl hi (by omega)
        have f2' : fThought_firstWrongFromThen (wI M2 (42 + 1) d (nI i)) (27 + sh) (nI k) (nI c) = some (r, M4) := f2
        have f12 : M4.1 12 4 = u1.1 12 4 := by
          rw [f4.1 12 4 (by unfold PC PG; omega), wI_1, if_neg (by omega), K2.1 12 4 (by unfold PB; omega)]
        have base : fThought_fittingLucks_L74 (j + 1) u1 (27 + sh) (nI k) (nI c) (nI d) (nI (nf f i)) (nI i) = if ¬ f i = -2 then fThought_fittingLucks_L74 j M4 (27 + sh) (nI k) (nI c) (nI d) (nI (nf f i)) (nI (i + 1)) else if ¬ nI (nf f i) = 0 then fThought_fittingLucks_L74 j (wI M4 12 4 (M4.1 12 4)) (27 + sh) (nI k) (nI c) (nI d) (nI (nf f i + 1)) (nI (i + 1)) else fThought_fittingLucks_L74 j (wI M4 12 4 (nI i)) (27 + sh) (nI k) (nI c) (nI d) (nI (nf f i + 1)) (nI (i + 1)) := by
          show fThought_fittingLucks_L74_F (fThought_fittingLucks_L74 j) u1 (27 + sh) (nI k) (nI c) (nI d) (nI (nf f i)) (nI i) = _
          rw [fThought_fittingLucks_L74_F, if_neg h0, b2, Option.bind_some, stI_n hd (by omega), Option.bind_some, f2', Option.bind_some, er, nI_1, nI_1]
        have nfi := nf_le f i
        have Kw : ∀ x, Kp (fun a i => a = 12 ∧ i = 4) M4 (wI M4 12 4 x) := fun x => Kp.w _ _ (by omega)
        have fin : ∀ x, FirstR (fun j => f j = -2) (i + 1) x → nf f (i + 1) = nf f i + 1 → ∃ s' : Mem × Int32 × Int32, (s'.2 = (nI (nf f (i + 1)), nI (i + 1)) ∧ Kp PTc M s'.1 ∧ CW W s'.1 ∧ Zr s'.1 ∧ FirstR (fun j => f j = -2) (i + 1) (s'.1.1 12 4)) ∧ fThought_fittingLucks_L74 j (wI M4 12 4 x) (27 + sh) (nI k) (nI c) (nI d) (nI (nf f i + 1)) (nI (i + 1)) = fThought_fittingLucks_L74 j s'.1 (27 + sh) (nI k) (nI c) (nI d) s'.2.1 s'.2.2 := fun x hx hn => by
          refine ⟨(wI M4 12 4 x, nI (nf f (i + 1)), nI (i + 1)), ⟨rfl, f3.1.tr ((Kw x).mono (fun a i h => by unfold PTc; omega)), f3.2.1.kp (Kw x) (fun a i h => by omega), fun q hq => ?_, hx⟩, by rw [hn]⟩
          rw [(Kw x).1 _ _ (by omega), (Kw x).1 _ _ (by omega), (Kw x).1 _ _ (by omega)]; exact f3.2.2.2 q hq
        dsimp only
        rw [base]
        by_cases y : f i = -2
        · have hn : nf f (i + 1) = nf f i + 1 := by rw [nf, if_pos y]
          rw [if_neg (fun z => z y)]
          by_cases w : nf f i = 0
          · have e0 : ¬ ¬ nI (nf f i) = 0 := fun z => z (by rw [w]; rfl)
            rw [if_neg e0]
            exact fin _ (Or.inl ⟨i, by omega, rfl, y, (nf_0 f i).mp w⟩) hn
          · have e0 : ¬ nI (nf f i) = 0 := nI_ne0 (by omega) (by omega)
            rw [if_pos e0]
            refine fin _ ?_ hn
            rw [f12]
            rcases F1 with ⟨n, a1, a2, a3, a4⟩ | ⟨a1, a2⟩
            · exact Or.inl ⟨n, by omega, a2, a3, a4⟩
            · exact absurd ((nf_0 f i).mpr a2) w
        · rw [if_pos y]
          refine ⟨(M4, nI (nf f (i + 1)), nI (i + 1)), ⟨rfl, f3.1, f3.2.1, f3.2.2.2, ?_⟩, by rw [nf, if_neg y]⟩
          dsimp only
          rw [f12]
          rcases F1 with ⟨n, a1, a2, a3, a4⟩ | ⟨a1, a2⟩
          · exact Or.inl ⟨n, by omega, a2, a3, a4⟩
          · refine Or.inr ⟨a1, fun m hm => ?_⟩
            rcases Nat.lt_or_ge m i with z | z
            · exact a2 m z
            · obtain rfl : m = i := by omega
              exact y)
      (fun j t hP => by
        obtain ⟨u1, u2⟩ := t
        obtain ⟨e2, K, C1, Z1, F1⟩ := hP
        dsimp only at e2 K C1 Z1 F1
        subst e2
        refine ⟨(u1, nI (nf f 100)), ?_, rfl, K, Z1, F1⟩
        show fThought_fittingLucks_L74_F (fThought_fittingLucks_L74 j) u1 (27 + sh) (nI k) (nI c) (nI d) (nI (nf f 100)) (nI 100) = _
        rw [fThought_fittingLucks_L74_F, if_pos (by decide)])
    obtain ⟨M1, r⟩ := R
    dsimp only at h1 h2 h3 h4
    subst h1
    have eR' : fThought_fittingLucks_L74 FU (wI M 12 4 (-2)) (27 + sh) (nI k) (nI c) (nI d) 0 0 = some (M1, nI (nf f 100)) := eR
    exact ⟨M1, by rw [fThought_fittingLucks, ev, Option.bind_some, if_pos (by decide), eR', Option.bind_some], h2, h3, h4⟩
  · -- luck that never comes there
    have V0 : VS W.1 36 (wI M 12 4 (-2)) s := hV
    obtain ⟨M2, b2, T2⟩ := begin_c hW K0 C0 V0 Z0
    obtain ⟨r, M4, m, f1, f2, f3, f4⟩ := fw_c hW hs T2 rw_ hrow hel hk hc
    have same : ∀ j, f j = r := fun j => by
      have hA : Agr W (fun a => Rch W a c) s (setS 68 s d (nI j)) := by
        refine ⟨fun a ha ua => ?_, fun _ _ _ _ => rfl, fun _ _ => rfl, fun _ _ _ => rfl, rfl⟩
        show s.1 a = upd s.1 d (nI j) a
        have nad : ¬ a = d := fun z => hv (by rw [← z]; exact ua)
        rw [upd_a, if_neg nad]
      have hB : ∀ n, Bad W (setS 68 s d (nI j)) c rw_ n ↔ Bad W s c rw_ n := fun n => by
        have e := (stN_agr hW (up_rch hH c) hA hs n).1 c hc ⟨0, by omega, rfl⟩
        unfold Bad
        rw [e]
      refine first_un (hf j) ?_
      rcases f1 with ⟨n, a1, a2, a3, a4⟩ | ⟨a1, a2⟩
      · exact Or.inl ⟨n, a1, a2, (hB n).mpr a3, fun q hq z => a4 q hq ((hB q).mp z)⟩
      · exact Or.inr ⟨a1, fun q hq z => a2 q hq ((hB q).mp z)⟩
    have Kw : ∀ x, Kp (fun a i => a = 12 ∧ i = 4) M4 (wI M4 12 4 x) := fun x => Kp.w _ _ (by omega)
    have fin : ∀ x, Kp PTc M (wI M4 12 4 x) ∧ Zr (wI M4 12 4 x) := fun x => ⟨f3.1.tr ((Kw x).mono (fun a i h => by unfold PTc; omega)), fun q hq => by
      rw [(Kw x).1 _ _ (by omega), (Kw x).1 _ _ (by omega), (Kw x).1 _ _ (by omega)]; exact f3.2.2.2 q hq⟩
    have base : fThought_fittingLucks M (27 + sh) (nI k) (nI c) (nI d) = if ¬ r = -2 then fThought_fittingLucks_J39 M4 (27 + sh) 0 else fThought_fittingLucks_J39 M4 (27 + sh) 1 := by
      rw [fThought_fittingLucks, ev, Option.bind_some, if_neg (fun z => z rfl), fThought_firstWrong, b2, Option.bind_some, f2]
      rfl
    by_cases y : r = -2
    · have hall : ∀ j, f j = -2 := fun j => (same j).trans y
      refine ⟨wI M4 12 4 0, ?_, (fin 0).1, (fin 0).2, Or.inl ⟨0, by omega, rfl, hall 0, fun m hm => absurd hm (Nat.not_lt_zero m)⟩⟩
      rw [base, if_neg (fun z => z y), nf_all 100 (fun j _ => hall j)]
      rfl
    · have hno : ∀ j, ¬ f j = -2 := fun j => by rw [same j]; exact y
      refine ⟨wI M4 12 4 (-2), ?_, (fin (-2)).1, (fin (-2)).2, Or.inr ⟨rfl, fun m _ => hno m⟩⟩
      rw [base, if_pos y, (nf_0 f 100).mpr (fun j _ => hno j)]
      rfl
theorem first_m {W : Wd} (hW : okW W) {s : St} (hs : okS W.1 s) {M : Mem} (hC : MW W M) (hV : VM W.1 M s) {sh k c d : Nat} (hsh : sh < 6) (rw_ : Nat → Int64) (h89 : M.1 89 sh = nI k) (hrow : ∀ i, i < 60 → M.2.1 90 (60 * sh + i) = rw_ i) (hk : k ≤ 60) (hc : c < 36) (hd : d < 36) (f : Nat → Int32) (hf : ∀ j, FirstR (Bad W (setS 68 s d (nI j)) c rw_) (min k 49) (f j)) (x : Int32) : ∃ l M1, FirstR (fun j => f j = -2) 100 l ∧ fMd_atFirst M (nI sh) (nI c) (nI d) x = some (if ¬ x = 1 then l else nI (nf f 100), M1) ∧ Rest M M1 := by
  have key : ∀ (v n : Nat) (M' : Mem) (l : Int32), v ≤ 100 → v < n → SX 68 d M M' → ((∃ m, v ≤ m ∧ m < 100 ∧ l = nI m ∧ f m = -2 ∧ ∀ j, v ≤ j → j < m → ¬ f j = -2) ∨ (l = -2 ∧ ∀ j, v ≤ j → j < 100 → ¬ f j = -2)) → ∃ M1 l', fMd_atFirst_L19 n M' (nI sh) (nI c) (nI d) (nI (nf f 100 - nf f v)) l (nI v - 1) = some (M1, nI (nf f 100), l') ∧ FirstR (fun j => f j = -2) 100 l' ∧ SX 68 d M M1 := by
    intro v
    induction v with
    | zero =>
      intro n M' l _ hn S hl
      obtain ⟨n, rfl⟩ : ∃ q, n = q + 1 := ⟨n - 1, by omega⟩
      refine ⟨M', l, ?_, ?_, S⟩
      · show fMd_atFirst_L19_F (fMd_atFirst_L19 n) _ _ _ _ _ _ _ = _
        have z : nI 0 - 1 < 0 := by decide
        rw [fMd_atFirst_L19_F, if_pos z]
        rfl
      · rcases hl with ⟨m, -, a2, a3, a4, a5⟩ | ⟨a1, a2⟩
        · exact Or.inl ⟨m, a2, a3, a4, fun j hj => a5 j (Nat.zero_le _) hj⟩
        · exact Or.inr ⟨a1, fun j hj => a2 j (Nat.zero_le _) hj⟩
    | succ v ih =>
      intro n M' l hv hn S hl
      obtain ⟨n, rfl⟩ : ∃ q, n = q + 1 := ⟨n - 1, by omega⟩
      have e0 : nI (v + 1) - 1 = nI v := nI_pred v
      have h0 : ¬ nI v < 0 := nI_pos (by omega)
      have e3 : nI v + (-1) = nI v - 1 := by rw [Int32.sub_eq_add_neg]
      obtain ⟨m1, m2, m3⟩ := S.set hW (Or.inl rfl) hC hV (nI v)
      have hs3 : okS W.1 (setS 68 s d (nI v)) := luck_ok hs d (r9999.mpr ⟨v, by omega, rfl⟩)
      have K : Kp PTm M (wI M' 68 d (nI v)) := S.1.tr (Kp.w _ _ (by unfold PTm; omega))
      obtain ⟨r, M4, f1, f2, f3⟩ := un_m hW hs3 m1 m2 hsh rw_ (by rw [K.1 89 sh (by unfold PTm; omega)]; exact h89) (fun i hi => by rw [K.2]; exact hrow i hi) hk hc
      have er := first_un f1 (hf v)
      have base : fMd_atFirst_L19 (n + 1) M' (nI sh) (nI c) (nI d) (nI (nf f 100 - nf f (v + 1))) l (nI (v + 1) - 1) = if f v = -2 then fMd_atFirst_L19 n M4 (nI sh) (nI c) (nI d) (nI (nf f 100 - nf f (v + 1) + 1)) (nI v) (nI v - 1) else fMd_atFirst_L19 n M4 (nI sh) (nI c) (nI d) (nI (nf f 100 - nf f (v + 1))) l (nI v - 1) := by
        show fMd_atFirst_L19_F (fMd_atFirst_L19 n) M' (nI sh) (nI c) (nI d) (nI (nf f 100 - nf f (v + 1))) l (nI (v + 1) - 1) = _
        rw [e0, fMd_atFirst_L19_F, if_neg h0, stI_n hd (by omega), Option.bind_some, f2, Option.bind_some, er, nI_1, e3]
      rw [base]
      by_cases y : f v = -2
      · have hn1 : nf f (v + 1) = nf f v + 1 := by rw [nf, if_pos y]
        have hmono := nf_mono f (v + 1) 100 hv
        rw [if_pos y]
        have : nf f 100 - nf f (v + 1) + 1 = nf f 100 - nf f v := by omega
        rw [this]
        exact ih n M4 (nI v) (by omega) (by omega) (m3 M4 f3) (Or.inl ⟨v, Nat.le_refl _, by omega, rfl, y, fun j h1 h2 => by omega⟩)
      · have hn1 : nf f (v + 1) = nf f v := by rw [nf, if_neg y]
        rw [if_neg y, hn1]
        refine ih n M4 l (by omega) (by omega) (m3 M4 f3) ?_
        rcases hl with ⟨m, a1, a2, a3, a4, a5⟩ | ⟨a1, a2⟩
        · refine Or.inl ⟨m, by omega, a2, a3, a4, fun j h1 h2 => ?_⟩
          rcases Nat.lt_or_ge v j with z | z
          · exact a5 j (by omega) h2
          · have : j = v := by omega
            rw [this]; exact y
        · refine Or.inr ⟨a1, fun j h1 h2 => ?_⟩
          rcases Nat.lt_or_ge v j with z | z
          · exact a2 j (by omega) h2
          · have : j = v := by omega
            rw [this]; exact y
  obtain ⟨M1, l, e, hl, S⟩ := key 100 FU M (-2) (Nat.le_refl _) (fu_lt (by omega)) (SX.rf _ _ _) (Or.inr ⟨rfl, fun j h1 h2 => by omega⟩)
  rw [Nat.sub_self] at e
  have e' : fMd_atFirst_L19 FU M (nI sh) (nI c) (nI d) 0 (-2) 99 = some (M1, nI (nf f 100), l) := e
  refine ⟨l, wI M1 68 d (M.1 68 d), hl, ?_, S.back (Or.inl rfl)⟩
  rw [fMd_atFirst, rdI_n hd (by omega), Option.bind_some, e', Option.bind_some]
  dsimp only
  rw [stI_n hd (by omega), Option.bind_some]
  by_cases y : x = 1
  · rw [if_neg (fun z => z y), if_neg (fun z => z y)]
  · rw [if_pos y, if_pos y]
theorem three_cases (x : Int32) : ((x < 0 ∨ ¬ x ≤ 2) ∧ fMd_within x 0 2 = 0) ∨ ((x = 0 ∨ x = 1 ∨ x = 2) ∧ ¬ x < 0 ∧ x ≤ 2 ∧ fMd_within x 0 2 = 1) := by
  unfold fMd_within
  grind
theorem s_seen (x y z : Int32) : Sim (fun M => fSh_seen M x y z) (fun M => fMd_seen M x y z) := by
  rintro M hI
  have o1 : ¬ (1 : Int32) = 0 := by decide
  rcases shelf_cases x with ⟨h1, h2⟩ | ⟨sh, hsh, rfl, h1, h2⟩
  · exact ⟨-1, M, M, by simp [fSh_seen, h1], by simp [fMd_seen, h2], hI⟩
  by_cases hy : y < 0
  · exact ⟨-1, M, M, by simp [fSh_seen, h1, hy], by simp [fMd_seen, h2, hy], hI⟩
  obtain ⟨c', d', -, -, -, -⟩ := div100 hy
  rcases cell_cases (y / 100) with ⟨g1, g2⟩ | ⟨c, hc, ec, g1, g2⟩
  · exact ⟨-1, M, M, by simp [fSh_seen, h1, hy, g1], by simp [fMd_seen, h2, hy, g2], hI⟩
  rcases cell_cases (rmI y 100) with ⟨k1, k2⟩ | ⟨d, hd, ed, k1, k2⟩
  · exact ⟨-1, M, M, by simp [fSh_seen, h1, hy, g1, k1], by simp [fMd_seen, h2, hy, g2, k2], hI⟩
  rcases three_cases z with ⟨hz, w⟩ | ⟨hz, z1, z2, w⟩
  · refine ⟨-1, M, M, ?_, by simp [fMd_seen, h2, hy, g2, k2, w], hI⟩
    simp only [fSh_seen, h1, hy, g1, k1, o1, if_false]
    by_cases q : z < 0
    · simp [q]
    · simp [q, hz.resolve_left q]
  have hI0 := hI
  obtain ⟨p, n, hN, hT, hD, hIm, hC, hB, hS, hZ, hL⟩ := hI
  obtain ⟨L, w1, wh, w2, w3, w4, w5, w6⟩ := inv_wh hN hL
  rw [ec] at g1 g2
  rw [ed] at k1 k2
  have base1 : fSh_seen M (nI sh) y z = Option.bind (fShelves_refusal M (nI sh) 1) fun v10 => if v10 = 0 then Option.bind (rdI 6 25 M (nI sh)) fun v14 => if ¬ z = 0 then Option.bind (fThought_fittingLucks M (27 + sh) v14 (nI c) (nI d)) fun q16 => if ¬ z = 1 then some (q16.2.1 12 4, q16.2) else some (q16.1, q16.2) else Option.bind (fThought_fittingShoes M (27 + sh) v14 (nI c) (nI d)) fun q19 => some (q19.1, q19.2) else some (v10, M) := by
    simp only [fSh_seen, h1, hy, g1, k1, o1, if_false, z1, z2, if_true, rdR_n hsh, Option.bind_some, ec, ed]
  have base2 : ∀ M1, fMd_seen M1 (nI sh) y z = Option.bind (fMd_noShorts M1 (nI sh)) fun v10 => if 0 ≤ v10 then if ¬ z = 0 then Option.bind (fMd_atFirst M1 (nI sh) (nI c) (nI d) z) fun q14 => some (q14.1, q14.2) else Option.bind (fMd_under M1 (nI sh) (nI c) (nI d)) fun q16 => some (q16.1, q16.2) else some (v10, M1) := fun M1 => by
    simp only [fMd_seen, h2, hy, g2, k2, o1, if_false, w, not_false_eq_true, if_true, ec, ed]
  rcases shorts_cases hB.1 hS hsh with ⟨v, v0, v1, r1, r2⟩ | ⟨r1, r2, k, hk, r3, r4, r5⟩
  · refine ⟨v, M, M, ?_, ?_, hI0⟩
    · dsimp only; rw [base1, r1, Option.bind_some, if_neg v0]
    · dsimp only; rw [base2, r2 M rfl, Option.bind_some, if_neg v1]
  have hz0 : Zr M := fun i hi => (hZ i hi).2
  have after : ∀ M1, Kp PTc M M1 → MW (nowW p L M) M1 ∧ VM p M1 (nowS M) ∧ M1.1 88 = M.1 88 ∧ M1.1 89 sh = nI k ∧ ∀ i, i < 60 → M1.2.1 90 (60 * sh + i) = M.2.1 (27 + sh) i := fun M1 K => ⟨w3.kp K (fun a i h => by unfold PTc PG at h; omega) w1.1, w6.kp w1.1 K (fun a i h => by unfold PTc PG at h; omega), K.f (fun i h => by unfold PTc PG at h; omega), by rw [K.1 89 sh (by unfold PTc PG; omega)]; exact r4, fun i hi => by rw [K.2]; exact (r5 i hi).1⟩
  by_cases z0 : z = 0
  · have hf : ∃ f : Nat → Int32, ∀ j, FirstR (Bad (nowW p L M) (setS 69 (nowS M) d (nI j)) c (M.2.1 (27 + sh))) (min k 49) (f j) := ⟨fun j => Classical.choose (first_ex (Bad (nowW p L M) (setS 69 (nowS M) d (nI j)) c (M.2.1 (27 + sh))) (min k 49)), fun j => Classical.choose_spec (first_ex (Bad (nowW p L M) (setS 69 (nowS M) d (nI j)) c (M.2.1 (27 + sh))) (min k 49))⟩
    obtain ⟨f, hf⟩ := hf
    obtain ⟨M1, e1, a1, a2⟩ := under_c w1 w4 w2 w5 hz0 (sh := sh) (M.2.1 (27 + sh)) (fun _ _ => rfl) (fun i hi => (r5 i hi).2) hk hc hd f hf
    obtain ⟨b1, b2, b3, b4, b5⟩ := after M1 a1
    obtain ⟨M2, e2, a3⟩ := under_m w1 w4 b1 b2 hsh (M.2.1 (27 + sh)) b4 b5 hk hc hd f hf
    refine ⟨bw f 3, M1, M2, ?_, ?_, think_inv hI0 a1 a2 a3⟩
    · dsimp only
      rw [base1, r1, Option.bind_some, if_pos rfl, rdI_n hsh (by omega), Option.bind_some, r3, if_neg (fun y => y z0), e1, Option.bind_some]
    · dsimp only
      rw [base2, r2 M1 b3, Option.bind_some, if_pos (by decide), if_neg (fun y => y z0), e2, Option.bind_some]
  · have hf : ∃ f : Nat → Int32, ∀ j, FirstR (Bad (nowW p L M) (setS 68 (nowS M) d (nI j)) c (M.2.1 (27 + sh))) (min k 49) (f j) := ⟨fun j => Classical.choose (first_ex (Bad (nowW p L M) (setS 68 (nowS M) d (nI j)) c (M.2.1 (27 + sh))) (min k 49)), fun j => Classical.choose_spec (first_ex (Bad (nowW p L M) (setS 68 (nowS M) d (nI j)) c (M.2.1 (27 + sh))) (min k 49))⟩
    obtain ⟨f, hf⟩ := hf
    obtain ⟨M1, e1, a1, a2, a4⟩ := first_c w1 wh w4 w2 w5 hz0 (sh := sh) (M.2.1 (27 + sh)) (fun _ _ => rfl) (fun i hi => (r5 i hi).2) hk hc hd f hf
    obtain ⟨b1, b2, b3, b4, b5⟩ := after M1 a1
    obtain ⟨l, M2, e3, e2, a3⟩ := first_m w1 w4 b1 b2 hsh (M.2.1 (27 + sh)) b4 b5 hk hc hd f hf z
    have el := first_un a4 e3
    refine ⟨if ¬ z = 1 then l else nI (nf f 100), M1, M2, ?_, ?_, think_inv hI0 a1 a2 a3⟩
    · dsimp only
      rw [base1, r1, Option.bind_some, if_pos rfl, rdI_n hsh (by omega), Option.bind_some, r3, if_pos z0, e1, Option.bind_some]
      dsimp only
      rw [el]
      by_cases q : z = 1
      · rw [if_neg (fun y => y q), if_neg (fun y => y q)]
      · rw [if_pos q, if_pos q]
    · dsimp only
      rw [base2, r2 M1 b3, Option.bind_some, if_pos (by decide), if_pos z0, e2, Option.bind_some]
