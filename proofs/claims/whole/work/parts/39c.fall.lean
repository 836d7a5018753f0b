/-! fall, seat -/
theorem pour_ok {p : Nat} {s : St} (hs : okS p s) {c : Nat} (v : Int32) (hv : rng v 9999) : okS p (upd s.1 c (mnI (s.1 c + v) 9999), s.2) ∨ 36 ≤ c := by
  by_cases hc : c < 36
  · left
    refine ⟨fun i hi => ?_, hs.2⟩
    show rng (upd s.1 c (mnI (s.1 c + v) 9999) i) 9999
    rw [upd_a]
    by_cases z : i = c
    · rw [if_pos z]
      obtain ⟨a, ha, ea⟩ := r9999.mp (hs.1 c hc)
      obtain ⟨b, hb, eb⟩ := r9999.mp hv
      rw [ea, eb, nI_add]
      have : (9999 : Int32) = nI 9999 := rfl
      rw [this, mnI_n (by omega) (by omega)]
      exact r9999.mpr ⟨_, Nat.min_le_right _ _, rfl⟩
    · rw [if_neg z]; exact hs.1 i hi
  · right; omega
/-- what one HAS, or all LUCK -/
def meas (s : St) (one : Option Nat) : Int32 := match one with
  | none => sumL s.1 36
  | some q => s.2.2.2.1 q
def oneI (one : Option Nat) : Int32 := match one with
  | none => -1
  | some q => nI q
def okO (p : Nat) (one : Option Nat) : Prop := match one with
  | none => True
  | some q => q < p
theorem meas_c {W : Wd} (hp : W.1 ≤ 8) {M0 M : Mem} {s : St} (h : ThC W 42 M0 s M) {one : Option Nat} (ho : okO W.1 one) : fThought_luckOrHas M (oneI one) = some (meas s one) := by
  cases one with
  | none =>
    show (if ¬ (-1 : Int32) = -1 then _ else Option.bind (fStreet_wholeLuck M 42) fun v3 => some v3) = _
    rw [if_neg (fun z => z rfl), whole_c h.2.2.1, Option.bind_some]
    rfl
  | some q =>
    have hq : q < W.1 := ho
    show (if ¬ nI q = -1 then Option.bind (rdI 8 (42 + 4) M (nI q)) fun v2 => some v2 else _) = _
    rw [if_pos (m1_ne (by omega)), rdI_n (by omega) (by omega), Option.bind_some, h.2.2.1.2.2.2.1 q hq]
    rfl
theorem meas_m {W : Wd} (hp : W.1 ≤ 8) {a : Nat} {M0 M : Mem} {s : St} (h : ThM W a M0 s M) {one : Option Nat} (ho : okO W.1 one) : fMd_measured M (oneI one) = some (meas s one) := by
  cases one with
  | none =>
    show (if ¬ (-1 : Int32) = -1 then _ else Option.bind (fMd_allLuck M) fun v4 => some v4) = _
    rw [if_neg (fun z => z rfl), whole_m h.2.2.1, Option.bind_some]
    rfl
  | some q =>
    have hq : q < W.1 := ho
    show (if ¬ nI q = -1 then Option.bind (fMd_has M (nI q)) fun v2 => some v2 else _) = _
    rw [if_pos (m1_ne (by omega)), has_m h hp hq, Option.bind_some]
    rfl
theorem who_cases (p : Nat) (hp : p ≤ 8) (x : Int32) : (¬ x = -1 ∧ pers p x = 0) ∨ ∃ one : Option Nat, okO p one ∧ x = oneI one ∧ (x = -1 ∨ (¬ x = -1 ∧ pers p x = 1)) := by
  by_cases h : x = -1
  · exact Or.inr ⟨none, trivial, h, Or.inl h⟩
  · rcases pers_cases p hp x with g | ⟨q, hq, rfl, g⟩
    · exact Or.inl ⟨h, g⟩
    · exact Or.inr ⟨some q, hq, rfl, Or.inr ⟨h, g⟩⟩
theorem div100 {x : Int32} (h : ¬ x < 0) : ∃ c n : Nat, c < 2 ^ 31 ∧ n < 100 ∧ x / 100 = nI c ∧ rmI x 100 = nI n := by
  obtain ⟨j, hj, rfl⟩ := nI_of h
  have e : (100 : Int32) = nI 100 := rfl
  refine ⟨j / 100, j % 100, by omega, Nat.mod_lt _ (by omega), ?_, ?_⟩
  · rw [e, pk_div hj (by omega) (by omega)]
  · unfold rmI
    rw [e, pk_rem hj (by omega) (by omega)]
theorem s_fall (x v z : Int32) : Sim (fun M => fSh_fall M x v z) (fun M => fMd_fall M x v z) := sim_t fun W s hW hs => by
  have o1 : ¬ (1 : Int32) = 0 := by decide
  by_cases hx : x < 0
  · exact ⟨-2000000000, .const fun M _ => by simp [fSh_fall, hx], .const fun M _ => by simp [fMd_fall, hx]⟩
  obtain ⟨c', n', hc', hn', e1, e2⟩ := div100 hx
  rcases cell_cases (x / 100) with ⟨h1, h2⟩ | ⟨c, hc, ec, h1, h2⟩
  · exact ⟨-2000000000, .const fun M _ => by simp [fSh_fall, hx, h1], .const fun M _ => by simp [fMd_fall, hx, h2]⟩
  rcases time_cases (rmI x 100) with ⟨g1, g2⟩ | ⟨n, hn, en, g1, g2⟩
  · exact ⟨-2000000000, .const fun M _ => by simp [fSh_fall, hx, h1, g1], .const fun M _ => by simp [fMd_fall, hx, h2, g2]⟩
  by_cases hv : v < 1 ∨ 9999 < v
  · refine ⟨-2000000000, .const fun M _ => ?_, .const fun M _ => ?_⟩
    · simp only [fSh_fall, hx, h1, g1, o1, if_false]; grind
    · simp only [fMd_fall, hx, h2, g2, o1, if_false, fMd_within]; grind
  obtain ⟨v1, v2, v3⟩ : ¬ v < 1 ∧ v ≤ 9999 ∧ fMd_within v 1 9999 = 1 := by unfold fMd_within; grind
  have hvr : rng v 9999 := ⟨by grind, v2⟩
  rcases who_cases W.1 hW.1 z with ⟨w1, w2⟩ | ⟨one, ho, ez, w⟩
  · exact ⟨-2000000000, .const fun M hC => by simp [fSh_fall, hx, h1, g1, v1, v2, w1, pers_c hC, w2], .const fun M hC => by simp [fMd_fall, hx, h2, g2, v3, w1, pers_m hW hC, w2]⟩
  have baseC : ∀ M, CW W M → fSh_fall M x v z = fSh_fall_J58 M x v z := fun M hC => by
    simp only [fSh_fall, hx, h1, g1, o1, if_false, v1, v2, if_true]
    rcases w with w | ⟨w, w'⟩
    · rw [if_pos w]
    · rw [if_neg w, pers_c hC, w', if_pos o1]
  have baseM : ∀ M, MW W M → fMd_fall M x v z = fMd_fall_J52 M x v z := fun M hC => by
    simp only [fMd_fall, hx, h2, g2, v3, o1, if_false]
    rcases w with w | ⟨w, w'⟩
    · rw [if_pos w]
    · rw [if_neg w, pers_m hW hC, w', if_pos o1]
  have hs2 : okS W.1 (upd s.1 c (mnI (s.1 c + v) 9999), s.2) := (pour_ok hs v hvr).resolve_right (by omega)
  have h8 := hW.1
  refine ⟨meas (stN W n (upd s.1 c (mnI (s.1 c + v) 9999), s.2)) one - meas (stN W n s) one, fun M hC hV hz => ?_, fun M hC hV => ?_⟩
  · obtain ⟨M1, b1, t1⟩ := behind_c hW hs (Kp.rf _ M) hC hV hz n (by omega)
    have V1 : VS W.1 36 M1 s := hV.kp t1.1 (fun a i h => by unfold PTc PG at h; omega)
    obtain ⟨M2, b2, t2⟩ := begin_c hW t1.1 t1.2.1 V1 t1.2.2.2
    have hl : M2.1 (42 + 1) c = s.1 c := t2.2.2.1.1 c hc
    have t3 : ThC W 42 M (upd s.1 c (mnI (s.1 c + v) 9999), s.2) (wI M2 (42 + 1) c (mnI (s.1 c + v) 9999)) := by
      obtain ⟨a1, a2, a3, a4⟩ := t2
      have K : Kp (fun a _ => a = 43) M2 (wI M2 (42 + 1) c (mnI (s.1 c + v) 9999)) := Kp.w _ _ rfl
      refine ⟨a1.tr (K.mono (fun a i h => by unfold PTc; omega)), a2.kp K (fun a i h => by omega), ⟨fun i hi => ?_, fun i hi => ?_, fun q hq => ?_, fun q hq => ?_, ?_⟩, fun i hi => ?_⟩
      · rw [wI_1, if_pos rfl, upd_a]
        show _ = upd s.1 c (mnI (s.1 c + v) 9999) i
        rw [upd_a, a3.1 i hi]
      · rw [K.1 _ _ (by omega)]; exact a3.2.1 i hi
      · rw [K.1 _ _ (by omega)]; exact a3.2.2.1 q hq
      · rw [K.1 _ _ (by omega)]; exact a3.2.2.2.1 q hq
      · rw [K.1 _ _ (by omega)]; exact a3.2.2.2.2
      · rw [K.1 _ _ (by omega), K.1 _ _ (by omega), K.1 _ _ (by omega)]; exact a4 i hi
    obtain ⟨M4, b4, t4⟩ := t3.spend hW hs2 n (by omega)
    refine ⟨M4, ?_, t4.1, t4.2.2.2⟩
    show fSh_fall M x v z = _
    have hp : fStreet_poured M2 42 (nI c) v = some ((wI M2 (42 + 1) c (mnI (s.1 c + v) 9999)).1 (42 + 1) c, wI M2 (42 + 1) c (mnI (s.1 c + v) 9999)) := by
      simp only [fStreet_poured, rdI_n hc (by omega : 36 ≤ 1000), stI_n hc (by omega : 36 ≤ 1000), Option.bind_some, hl]
    rw [baseC M hC, fSh_fall_J58, fThought_more, ec, en, b1, Option.bind_some, ez, meas_c h8 t1 ho, Option.bind_some, b2, Option.bind_some, hp, Option.bind_some]
    dsimp only
    rw [b4, Option.bind_some, meas_c h8 t4 ho]
    rfl
  · obtain ⟨M1, a1, t1, -⟩ := keep_m hW hC hV (Rest.rf M) 92 (by omega)
    obtain ⟨M2, a2, t2⟩ := t1.goes hW (by omega) hs n (by omega)
    obtain ⟨M3, a3, r3, k3⟩ := t2.lays (by omega)
    have C3 := hC.rest hW r3
    have V3 := hV.rest hW.1 r3
    have hl : M3.1 68 c = s.1 c := V3.1 c hc
    have emn : mnI 9999 (s.1 c + v) = mnI (s.1 c + v) 9999 := mnI_c _ _
    have t4 : ThM W 92 M (upd s.1 c (mnI (s.1 c + v) 9999), s.2) (wI M3 68 c (mnI (s.1 c + v) 9999)) := by
      have K : Kp (fun a _ => a = 68) M3 (wI M3 68 c (mnI (s.1 c + v) 9999)) := Kp.w _ _ rfl
      refine ⟨r3.1.tr (K.mono (fun a i h => by unfold PTm; omega)), C3.kp K (fun a i h => by omega) hW.1, ⟨fun i hi => ?_, fun i hi => ?_, fun q hq => ?_, fun q hq => ?_, ?_⟩, fun i hi => ?_, fun i hi => ?_, ?_⟩
      · rw [wI_1, if_pos rfl, upd_a]
        show _ = upd s.1 c (mnI (s.1 c + v) 9999) i
        rw [upd_a, V3.1 i hi]
      · rw [K.1 _ _ (by omega)]; exact V3.2.1 i hi
      · rw [K.1 _ _ (by omega)]; exact V3.2.2.1 q hq
      · rw [K.1 _ _ (by omega)]; exact V3.2.2.2.1 q hq
      · rw [K.1 _ _ (by omega)]; exact V3.2.2.2.2
      · rw [K.1 _ _ (by omega), K.1 _ _ (by omega)]; exact k3.1 i hi
      · rw [K.1 _ _ (by omega)]; exact k3.2.1 i hi
      · rw [K.1 _ _ (by omega)]; exact k3.2.2
    obtain ⟨M5, a5, t5⟩ := t4.goes hW (by omega) hs2 n (by omega)
    obtain ⟨M6, a6, r6, -⟩ := t5.lays (by omega)
    refine ⟨M6, ?_, r6⟩
    show fMd_fall M x v z = _
    rw [baseM M hC, fMd_fall_J52, ec, en, a1, Option.bind_some, a2, Option.bind_some, ez, meas_m h8 t2 ho, Option.bind_some, a3, Option.bind_some, rdI_n hc (by omega), Option.bind_some, hl, emn, stI_n hc (by omega), Option.bind_some, a5, Option.bind_some, meas_m h8 t5 ho, Option.bind_some, a6, Option.bind_some]
