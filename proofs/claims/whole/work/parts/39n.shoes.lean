/-! shoes: the fewest -/
def hgS (s : St) (a b : Option Nat) : St := match a, b with
  | none, none => s
  | some c, none => shoeS s c 1
  | none, some d => shoeS s d 1
  | some c, some d => shoeS (shoeS s c 1) d 1
def okA (a : Option Nat) : Prop := match a with
  | none => True
  | some c => c < 36
theorem r2_1 : rng 1 2 := ⟨by decide, by decide⟩
theorem hg_ok {p : Nat} {s : St} (hs : okS p s) (a b : Option Nat) : okS p (hgS s a b) := by
  unfold hgS
  split
  · exact hs
  · exact shoe_ok hs _ r2_1
  · exact shoe_ok hs _ r2_1
  · exact shoe_ok (shoe_ok hs _ r2_1) _ r2_1
def PQ (a i : Nat) : Prop := (42 ≤ a ∧ a ≤ 47) ∨ PG a i
theorem hasBy_c {W : Wd} (hW : okW W) {s : St} (hs : okS W.1 s) {M0 M : Mem} (hK : Kp PTc M0 M) (hC : CW W M) (hV : VS W.1 36 M s) (hz : Zr M) {q t : Nat} (hq : q < W.1) (ht : t ≤ 1000) (a b : Option Nat) (ha : okA a) (hb : okA b) : ∃ M1, fThought_hasBy M (oneI a) (oneI b) (nI q) (nI t) = some ((stN W t (hgS s a b)).2.2.2.1 q, M1) ∧ Kp PTc M0 M1 ∧ CW W M1 ∧ Zr M1 ∧ Kp PQ M M1 := by
  have p8 := hW.1
  obtain ⟨M2, b2, T2, K2⟩ := begin_k hW hK hC hV hz
  have step : ∀ (u : Mem) (s1 : St) (c : Nat), ThC W 42 M0 s1 u → c < 36 → ThC W 42 M0 (shoeS s1 c 1) (wI u (42 + 2) c 1) := fun u s1 c T _ => T.set (a := 69) (Or.inr rfl) c 1
  have fin : ∀ (u : Mem), ThC W 42 M0 (hgS s a b) u → Kp PQ M u → fThought_hasBy M (oneI a) (oneI b) (nI q) (nI t) = fThought_hasBy_J35 u (nI q) (nI t) → ∃ M1, fThought_hasBy M (oneI a) (oneI b) (nI q) (nI t) = some ((stN W t (hgS s a b)).2.2.2.1 q, M1) ∧ Kp PTc M0 M1 ∧ CW W M1 ∧ Zr M1 ∧ Kp PQ M M1 := fun u T K e => by
    obtain ⟨M4, b4, T4, K4⟩ := T.spend_k hW (hg_ok hs a b) t ht
    refine ⟨M4, ?_, T4.1, T4.2.1, T4.2.2.2, K.tr (K4.mono (fun a i h => by unfold PC PG at h; unfold PQ PG; omega))⟩
    rw [e, fThought_hasBy_J35, b4, Option.bind_some, rdI_n (by omega) (by omega), Option.bind_some, T4.2.2.1.2.2.2.1 q hq]
  have K2' : Kp PQ M M2 := K2.mono (fun a i h => by unfold PB at h; unfold PQ; omega)
  have kw : ∀ (u : Mem) (c : Nat), Kp PQ u (wI u (42 + 2) c 1) := fun u c => Kp.w _ _ (by unfold PQ; omega)
  cases a with
  | none =>
    cases b with
    | none =>
      refine fin M2 T2 K2' ?_
      show fThought_hasBy M (-1) (-1) (nI q) (nI t) = _
      rw [fThought_hasBy, b2, Option.bind_some, if_pos rfl, fThought_hasBy_J20, if_pos rfl]
    | some d =>
      have hd : d < 36 := hb
      refine fin _ (step M2 s d T2 hd) (K2'.tr (kw _ d)) ?_
      show fThought_hasBy M (-1) (nI d) (nI q) (nI t) = _
      rw [fThought_hasBy, b2, Option.bind_some, if_pos rfl, fThought_hasBy_J20, if_neg (m1_ne (by omega)), stI_n hd (by omega), Option.bind_some]
  | some c =>
    have hc : c < 36 := ha
    cases b with
    | none =>
      refine fin _ (step M2 s c T2 hc) (K2'.tr (kw _ c)) ?_
      show fThought_hasBy M (nI c) (-1) (nI q) (nI t) = _
      rw [fThought_hasBy, b2, Option.bind_some, if_neg (m1_ne (by omega)), stI_n hc (by omega), Option.bind_some, fThought_hasBy_J20, if_pos rfl]
    | some d =>
      have hd : d < 36 := hb
      refine fin _ (step _ _ d (step M2 s c T2 hc) hd) ((K2'.tr (kw _ c)).tr (kw _ d)) ?_
      show fThought_hasBy M (nI c) (nI d) (nI q) (nI t) = _
      rw [fThought_hasBy, b2, Option.bind_some, if_neg (m1_ne (by omega)), stI_n hc (by omega), Option.bind_some, fThought_hasBy_J20, if_neg (m1_ne (by omega)), stI_n hd (by omega), Option.bind_some]
theorem ThM.shoe {W : Wd} (hW : okW W) {a : Nat} (ha : 91 < a) {M0 M : Mem} {s : St} (h : ThM W a M0 s M) (c : Nat) : ThM W a M0 (shoeS s c 1) (wI M 69 c 1) := by
  obtain ⟨h1, h2, h3, k1, k2, k3⟩ := h
  have K : Kp (fun b _ => b = 69) M (wI M 69 c 1) := Kp.w _ _ rfl
  refine ⟨h1.tr (K.mono (fun b i hb => by unfold PTm; omega)), h2.kp K (fun b i hb => by omega) hW.1, ⟨fun i hi => ?_, fun i hi => ?_, fun q hq => ?_, fun q hq => ?_, ?_⟩, fun i hi => ?_, fun i hi => ?_, ?_⟩
  · rw [K.1 _ _ (by omega)]; exact h3.1 i hi
  · rw [wI_1, if_pos rfl, upd_a]
    show _ = upd s.2.1 c 1 i
    rw [upd_a, h3.2.1 i hi]
  · rw [K.1 _ _ (by omega)]; exact h3.2.2.1 q hq
  · rw [K.1 _ _ (by omega)]; exact h3.2.2.2.1 q hq
  · rw [K.1 _ _ (by omega)]; exact h3.2.2.2.2
  · rw [K.1 _ _ (by omega), K.1 _ _ (by omega)]; exact k1 i hi
  · rw [K.1 _ _ (by omega)]; exact k2 i hi
  · rw [K.1 _ _ (by omega)]; exact k3
theorem hung_m {W : Wd} (hW : okW W) {s : St} (hs : okS W.1 s) {M0 M : Mem} (hC : MW W M0) (hV : VM W.1 M0 s) (hR : Rest M0 M) {q t : Nat} (hq : q < W.1) (ht : t ≤ 1000) (x X : Int32) (ex : x / 10000 = nI t) (eX : rmI x 10000 = X) (a b : Option Nat) (ha : okA a) (hb : okA b) : ∃ v M1, fMd_isHung M (nI q) x (oneI a) (oneI b) = some (v, M1) ∧ Rest M0 M1 ∧ (v = 0 ∧ (stN W t (hgS s a b)).2.2.2.1 q < X ∨ v = 1 ∧ ¬ (stN W t (hgS s a b)).2.2.2.1 q < X) := by
  obtain ⟨M2, b2, T2, -⟩ := keep_m hW hC hV hR 92 (by omega)
  have fin : ∀ (u : Mem), ThM W 92 M0 (hgS s a b) u → fMd_isHung M (nI q) x (oneI a) (oneI b) = fMd_isHung_J32 u (nI q) x → ∃ v M1, fMd_isHung M (nI q) x (oneI a) (oneI b) = some (v, M1) ∧ Rest M0 M1 ∧ (v = 0 ∧ (stN W t (hgS s a b)).2.2.2.1 q < X ∨ v = 1 ∧ ¬ (stN W t (hgS s a b)).2.2.2.1 q < X) := fun u T e => by
    obtain ⟨M4, b4, T4⟩ := T.goes hW (by omega) (hg_ok hs a b) t ht
    obtain ⟨M5, b5, r5, -⟩ := T4.lays (by omega)
    have base : fMd_isHung M (nI q) x (oneI a) (oneI b) = if (stN W t (hgS s a b)).2.2.2.1 q < X then some (0, M5) else some (1, M5) := by
      rw [e, fMd_isHung_J32, ex, b4, Option.bind_some, has_m T4 hW.1 hq, Option.bind_some, eX, b5, Option.bind_some, Option.bind_some]
    by_cases y : (stN W t (hgS s a b)).2.2.2.1 q < X
    · exact ⟨0, M5, by rw [base, if_pos y], r5, Or.inl ⟨rfl, y⟩⟩
    · exact ⟨1, M5, by rw [base, if_neg y], r5, Or.inr ⟨rfl, y⟩⟩
  have nz : (-1 : Int32) < 0 := by decide
  cases a with
  | none =>
    cases b with
    | none =>
      refine fin M2 T2 ?_
      show fMd_isHung M (nI q) x (-1) (-1) = _
      rw [fMd_isHung, b2, Option.bind_some, if_pos nz, fMd_isHung_J19, if_pos nz]
    | some d =>
      have hd : d < 36 := hb
      refine fin _ (T2.shoe hW (by omega) d) ?_
      show fMd_isHung M (nI q) x (-1) (nI d) = _
      rw [fMd_isHung, b2, Option.bind_some, if_pos nz, fMd_isHung_J19, if_neg (nI_pos (by omega)), stI_n hd (by omega), Option.bind_some]
  | some c =>
    have hc : c < 36 := ha
    cases b with
    | none =>
      refine fin _ (T2.shoe hW (by omega) c) ?_
      show fMd_isHung M (nI q) x (nI c) (-1) = _
      rw [fMd_isHung, b2, Option.bind_some, if_neg (nI_pos (by omega)), stI_n hc (by omega), Option.bind_some, fMd_isHung_J19, if_pos nz]
    | some d =>
      have hd : d < 36 := hb
      refine fin _ ((T2.shoe hW (by omega) c).shoe hW (by omega) d) ?_
      show fMd_isHung M (nI q) x (nI c) (nI d) = _
      rw [fMd_isHung, b2, Option.bind_some, if_neg (nI_pos (by omega)), stI_n hc (by omega), Option.bind_some, fMd_isHung_J19, if_neg (nI_pos (by omega)), stI_n hd (by omega), Option.bind_some]
/-! a shoe that steers nothing there changes nothing there -/
def Str (W : Wd) (c e : Nat) : Prop := ¬ bl W c = c ∧ Rch W c e
theorem str_c {W : Wd} (hH : okH W) {M : Mem} (hC : CW W M) {c e : Nat} (hc : c < 36) (he : e < 36) : ∃ v, fTown_steers M (nI c) (nI e) = some v ∧ (v = 1 ∧ Str W c e ∨ v = 0 ∧ ¬ Str W c e) := by
  have o1 : ¬ (1 : Int32) = 0 := by decide
  by_cases q : bl W c = c
  · exact ⟨0, by rw [fTown_steers, snk_c hC hc, if_pos q, Option.bind_some, if_pos o1], Or.inr ⟨rfl, fun z => z.1 q⟩⟩
  · obtain ⟨v, ev, hv⟩ := rch_c hH hC hc he
    rcases hv with ⟨rfl, hv⟩ | ⟨rfl, hv⟩
    · exact ⟨1, by rw [fTown_steers, snk_c hC hc, if_neg q, Option.bind_some, if_neg (fun z => z rfl), ev, Option.bind_some, if_neg o1], Or.inl ⟨rfl, q, hv⟩⟩
    · exact ⟨0, by rw [fTown_steers, snk_c hC hc, if_neg q, Option.bind_some, if_neg (fun z => z rfl), ev, Option.bind_some, if_pos rfl], Or.inr ⟨rfl, fun z => hv z.2⟩⟩
theorem agr_shoe {W : Wd} {e c : Nat} (s : St) (x : Int32) (h : ¬ Str W c e) : Agr W (fun a => Rch W a e) s (shoeS s c x) := by
  refine ⟨fun _ _ _ => rfl, fun a ha ua na => ?_, fun _ _ => rfl, fun _ _ _ => rfl, rfl⟩
  show s.2.1 a = upd s.2.1 c x a
  have : ¬ a = c := fun z => h (by rw [← z]; exact ⟨na, ua⟩)
  rw [upd_a, if_neg this]
theorem agr_shoe2 {W : Wd} {e c d : Nat} (s : St) (x y : Int32) (h : ¬ Str W c e) : Agr W (fun a => Rch W a e) (shoeS s d y) (shoeS (shoeS s c x) d y) := by
  refine ⟨fun _ _ _ => rfl, fun a ha ua na => ?_, fun _ _ => rfl, fun _ _ _ => rfl, rfl⟩
  show upd s.2.1 d y a = upd (upd s.2.1 c x) d y a
  have : ¬ a = c := fun z => h (by rw [← z]; exact ⟨na, ua⟩)
  simp only [upd_a, if_neg this]
theorem has_agr {W : Wd} (hW : okW W) (hH : okH W) {s s' : St} {e q : Nat} (he : e < 36) (hq : q < W.1) (hce : s.2.2.1 q = nI e) (hs : okS W.1 s) (h : Agr W (fun a => Rch W a e) s s') (t : Nat) : (stN W t s).2.2.2.1 q = (stN W t s').2.2.2.1 q := by
  have A := stN_agr hW (up_rch hH e) h hs t
  have hcell : ∀ n, (stN W n s).2.2.1 = s.2.2.1 := by
    intro n
    induction n with
    | zero => rfl
    | succ n ih => show (stN W n s).2.2.1 = _; exact ih
  refine A.2.2.2.1 q hq ?_
  show Rch W (ix ((stN W t s).2.2.1 q)) e
  rw [hcell t, hce, ix_n (by omega)]
  exact ⟨0, by omega, rfl⟩
/-- what comes of the question: how many, which -/
def OutR (h0 : Int32) (h1 : Nat → Int32) (h2 : Nat → Nat → Int32) (x : Int32) (sh : Nat → Int32) (k r : Int32) : Prop :=
  (¬ h0 < x ∧ k = 0 ∧ r = -9) ∨
  (h0 < x ∧ ∃ c, c < 36 ∧ ¬ sh c = 1 ∧ ¬ h1 c < x ∧ (∀ c', c' < c → sh c' = 1 ∨ h1 c' < x) ∧ k = 1 ∧ r = nI c) ∨
  (h0 < x ∧ (∀ c, c < 36 → sh c = 1 ∨ h1 c < x) ∧ ∃ c d, c < d ∧ d < 36 ∧ ¬ sh c = 1 ∧ ¬ sh d = 1 ∧ ¬ h2 c d < x ∧ (∀ c' d', c' < d' → d' < 36 → (c' < c ∨ c' = c ∧ d' < d) → sh c' = 1 ∨ sh d' = 1 ∨ h2 c' d' < x) ∧ k = 2 ∧ r = nI (36 * c + d)) ∨
  (h0 < x ∧ (∀ c, c < 36 → sh c = 1 ∨ h1 c < x) ∧ (∀ c d, c < d → d < 36 → sh c = 1 ∨ sh d = 1 ∨ h2 c d < x) ∧ k = -2 ∧ r = -2)
theorem out_un {h0 : Int32} {h1 : Nat → Int32} {h2 : Nat → Nat → Int32} {x : Int32} {sh : Nat → Int32} {k r k' r' : Int32} (a : OutR h0 h1 h2 x sh k r) (b : OutR h0 h1 h2 x sh k' r') : k = k' ∧ r = r' := by
  rcases a with ⟨a1, rfl, rfl⟩ | ⟨a1, c, a2, a3, a4, a5, rfl, rfl⟩ | ⟨a1, a2, c, d, a3, a4, a5, a6, a7, a8, rfl, rfl⟩ | ⟨a1, a2, a3, rfl, rfl⟩
  · rcases b with ⟨b1, rfl, rfl⟩ | ⟨b1, -⟩ | ⟨b1, -⟩ | ⟨b1, -⟩
    · exact ⟨rfl, rfl⟩
    · exact absurd b1 a1
    · exact absurd b1 a1
    · exact absurd b1 a1
  · rcases b with ⟨b1, -⟩ | ⟨b1, c', b2, b3, b4, b5, rfl, rfl⟩ | ⟨b1, b2, -⟩ | ⟨b1, b2, -⟩
    · exact absurd a1 b1
    · have : c = c' := by
        rcases Nat.lt_trichotomy c c' with z | z | z
        · exact absurd (b5 c z) (fun w => w.elim a3 a4)
        · exact z
        · exact absurd (a5 c' z) (fun w => w.elim b3 b4)
      rw [this]
      exact ⟨rfl, rfl⟩
    · exact absurd (b2 c a2) (fun w => w.elim a3 a4)
    · exact absurd (b2 c a2) (fun w => w.elim a3 a4)
  · rcases b with ⟨b1, -⟩ | ⟨b1, c', b2, b3, b4, b5, -⟩ | ⟨b1, b2, c', d', b3, b4, b5, b6, b7, b8, rfl, rfl⟩ | ⟨b1, b2, b3, -⟩
    · exact absurd a1 b1
    · exact absurd (a2 c' b2) (fun w => w.elim b3 b4)
    · have no1 : ¬ (c' < c ∨ c' = c ∧ d' < d) := fun z => (a8 c' d' b3 b4 z).elim b5 (fun w => w.elim b6 b7)
      have no2 : ¬ (c < c' ∨ c = c' ∧ d < d') := fun z => (b8 c d a3 a4 z).elim a5 (fun w => w.elim a6 a7)
      have e1 : c = c' := by omega
      have e2 : d = d' := by omega
      rw [e1, e2]
      exact ⟨rfl, rfl⟩
    · exact absurd (b3 c d a3 a4) (fun w => w.elim a5 (fun w => w.elim a6 a7))
  · rcases b with ⟨b1, -⟩ | ⟨b1, c', b2, b3, b4, b5, -⟩ | ⟨b1, b2, c', d', b3, b4, b5, b6, b7, b8, -⟩ | ⟨b1, b2, b3, rfl, rfl⟩
    · exact absurd a1 b1
    · exact absurd (a2 c' b2) (fun w => w.elim b3 b4)
    · exact absurd (a3 c' d' b3 b4) (fun w => w.elim b5 (fun w => w.elim b6 b7))
    · exact ⟨rfl, rfl⟩
/-- the candidates: a list in order, whole -/
def CandOk (P : Nat → Prop) (i k : Nat) (f : Nat → Int32) : Prop := k ≤ i ∧ ∃ ca : Nat → Nat, (∀ j, j < k → f j = nI (ca j) ∧ ca j < i ∧ P (ca j)) ∧ (∀ j l, j < l → l < k → ca j < ca l) ∧ ∀ c, c < i → P c → ∃ j, j < k ∧ ca j = c
theorem CandOk.skip {P : Nat → Prop} {i k : Nat} {f : Nat → Int32} (h : CandOk P i k f) (hP : ¬ P i) : CandOk P (i + 1) k f := by
  obtain ⟨h1, ca, h2, h3, h4⟩ := h
  refine ⟨by omega, ca, fun j hj => ?_, h3, fun c hc pc => ?_⟩
  · obtain ⟨a, b, c⟩ := h2 j hj
    exact ⟨a, by omega, c⟩
  · rcases Nat.lt_or_ge c i with z | z
    · exact h4 c z pc
    · have : c = i := by omega
      rw [this] at pc
      exact absurd pc hP
theorem CandOk.take {P : Nat → Prop} {i k : Nat} {f : Nat → Int32} (h : CandOk P i k f) (hP : P i) : CandOk P (i + 1) (k + 1) (upd f k (nI i)) := by
  obtain ⟨h1, ca, h2, h3, h4⟩ := h
  refine ⟨by omega, fun j => if j = k then i else ca j, fun j hj => ?_, fun j l hjl hl => ?_, fun c hc pc => ?_⟩
  · dsimp only
    rw [upd_a]
    by_cases z : j = k
    · rw [if_pos z, if_pos z]; exact ⟨rfl, by omega, hP⟩
    · rw [if_neg z, if_neg z]
      obtain ⟨a, b, c⟩ := h2 j (by omega)
      exact ⟨a, by omega, c⟩
  · dsimp only
    have nj : ¬ j = k := by omega
    rw [if_neg nj]
    by_cases z : l = k
    · rw [if_pos z]; exact (h2 j (by omega)).2.1
    · rw [if_neg z]; exact h3 j l hjl (by omega)
  · rcases Nat.lt_or_ge c i with z | z
    · obtain ⟨j, hj, e⟩ := h4 c z pc
      exact ⟨j, by omega, by dsimp only; rw [if_neg (by omega)]; exact e⟩
    · exact ⟨k, by omega, by dsimp only; rw [if_pos rfl]; omega⟩
theorem cand_c {W : Wd} (hH : okH W) {s : St} {M0 M : Mem} (hK : Kp PTc M0 M) (hC : CW W M) (hV : VS W.1 36 M s) (hz : Zr M) {e : Nat} (he : e < 36) : ∃ k M1, k ≤ 36 ∧ fThought_candidatesFor M (nI e) = some (nI k, M1) ∧ Kp PTc M0 M1 ∧ CW W M1 ∧ Zr M1 ∧ CandOk (fun c => ¬ s.2.1 c = 1 ∧ Str W c e) 36 k (M1.1 13) ∧ Kp (fun a _ => a = 13) M M1 := by
  obtain ⟨R, eR, h1, h2, h3⟩ := loop0 (σ := Mem × Int32 × Int32) (fun j t => fThought_candidatesFor_L5 j t.1 (nI e) t.2.1 t.2.2) (fun i t => ∃ k, t.2 = (nI k, nI i) ∧ Kp (fun a _ => a = 13) M t.1 ∧ CandOk (fun c => ¬ s.2.1 c = 1 ∧ Str W c e) i k (t.1.1 13)) (fun R => ∃ k, R.2 = nI k ∧ Kp (fun a _ => a = 13) M R.1 ∧ CandOk (fun c => ¬ s.2.1 c = 1 ∧ Str W c e) 36 k (R.1.1 13)) 36 (fu_lt (by omega)) (M, 0, 0) ⟨0, rfl, Kp.rf _ _, Nat.le_refl _, fun _ => 0, fun j hj => absurd hj (Nat.not_lt_zero j), fun j l _ hl => absurd hl (Nat.not_lt_zero l), fun c hc => absurd hc (Nat.not_lt_zero c)⟩
    (fun j i t hi hP => by
      obtain ⟨u1, u2⟩ := t
      obtain ⟨k, q1, K, H⟩ := hP
      dsimp only at q1 K H
      subst q1
      right
      have ki := H.1
      have C1 : CW W u1 := hC.kp K (fun a i h => by omega)
      have hsh : u1.1 (36 + 2) i = s.2.1 i := by rw [K.1 _ _ (by omega)]; exact hV.2.1 i hi
      obtain ⟨v, ev, hv⟩ := str_c hH C1 hi he
      have base : fThought_candidatesFor_L5 (j + 1) u1 (nI e) (nI k) (nI i) = if s.2.1 i = 1 then fThought_candidatesFor_L5 j u1 (nI e) (nI k) (nI (i + 1)) else if v = 0 then fThought_candidatesFor_L5 j u1 (nI e) (nI k) (nI (i + 1)) else fThought_candidatesFor_L5 j (wI u1 13 k (nI i)) (nI e) (nI (k + 1)) (nI (i + 1)) := by
        show fThought_candidatesFor_L5_F (fThought_candidatesFor_L5 j) u1 (nI e) (nI k) (nI i) = _
        rw [fThought_candidatesFor_L5_F, if_neg (nI_lt36 hi), rdI_n hi (by omega), Option.bind_some, hsh, ev, Option.bind_some, stI_n (by omega) (by omega), Option.bind_some, nI_1, nI_1]
      dsimp only
      rw [base]
      by_cases y : s.2.1 i = 1
      · rw [if_pos y]
        exact ⟨(u1, nI k, nI (i + 1)), ⟨k, rfl, K, H.skip (fun z => z.1 y)⟩, rfl⟩
      · rw [if_neg y]
        rcases hv with ⟨rfl, hv⟩ | ⟨rfl, hv⟩
        · rw [if_neg (by decide)]
          exact ⟨(wI u1 13 k (nI i), nI (k + 1), nI (i + 1)), ⟨k + 1, rfl, K.tr (Kp.w _ _ rfl), by dsimp only; rw [wI_1, if_pos rfl]; exact H.take ⟨y, hv⟩⟩, rfl⟩
        · rw [if_pos rfl]
          exact ⟨(u1, nI k, nI (i + 1)), ⟨k, rfl, K, H.skip (fun z => hv z.2)⟩, rfl⟩)
    (fun j t hP => by
      obtain ⟨u1, u2⟩ := t
      obtain ⟨k, q1, K, H⟩ := hP
      dsimp only at q1 K H
      subst q1
      refine ⟨(u1, nI k), ?_, k, rfl, K, H⟩
      show fThought_candidatesFor_L5_F (fThought_candidatesFor_L5 j) u1 (nI e) (nI k) (nI 36) = _
      rw [fThought_candidatesFor_L5_F, if_pos nI_ge36])
  obtain ⟨M1, r⟩ := R
  obtain ⟨K, H⟩ := h3
  dsimp only at h2 K H
  subst h2
  have eR' : fThought_candidatesFor_L5 FU M (nI e) 0 0 = some (M1, nI h1) := eR
  refine ⟨h1, M1, H.1, by rw [fThought_candidatesFor, eR', Option.bind_some], hK.tr (K.mono (fun a i h => by unfold PTc; omega)), hC.kp K (fun a i h => by omega), fun i hi => ?_, H, K⟩
  rw [K.1 _ _ (by omega), K.1 _ _ (by omega), K.1 _ _ (by omega)]
  exact hz i hi
