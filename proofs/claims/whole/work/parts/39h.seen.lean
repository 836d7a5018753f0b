/-! seen -/
def shoeS (s : St) (d : Nat) (x : Int32) : St := (s.1, upd s.2.1 d x, s.2.2)
def luckS (s : St) (d : Nat) (x : Int32) : St := (upd s.1 d x, s.2)
theorem shoe_ok {p : Nat} {s : St} (hs : okS p s) (d : Nat) {x : Int32} (hx : rng x 2) : okS p (shoeS s d x) := by
  refine ⟨hs.1, fun i hi => ?_, hs.2.2⟩
  show rng (upd s.2.1 d x i) 2
  rw [upd_a]
  by_cases z : i = d
  · rw [if_pos z]; exact hx
  · rw [if_neg z]; exact hs.2.1 i hi
theorem luck_ok {p : Nat} {s : St} (hs : okS p s) (d : Nat) {x : Int32} (hx : rng x 9999) : okS p (luckS s d x) := by
  refine ⟨fun i hi => ?_, hs.2⟩
  show rng (upd s.1 d x i) 9999
  rw [upd_a]
  by_cases z : i = d
  · rw [if_pos z]; exact hx
  · rw [if_neg z]; exact hs.1 i hi
/-- the reference's own street, but for one number of cell d -/
def SX (a d : Nat) (M0 M : Mem) : Prop := Kp PTm M0 M ∧ (∀ c, c < 36 → (a = 68 ∧ c = d) ∨ M.1 68 c = M0.1 68 c) ∧ (∀ c, c < 36 → (a = 69 ∧ c = d) ∨ M.1 69 c = M0.1 69 c) ∧ (∀ i, i < 32 → M.1 70 i = M0.1 70 i) ∧ M.1 66 5 = M0.1 66 5
theorem SX.rf (a d : Nat) (M : Mem) : SX a d M M := ⟨Kp.rf _ _, fun _ _ => Or.inr rfl, fun _ _ => Or.inr rfl, fun _ _ => rfl, rfl⟩
def setS (a : Nat) (s : St) (d : Nat) (x : Int32) : St := if a = 68 then luckS s d x else shoeS s d x
theorem SX.set {W : Wd} (hW : okW W) {s : St} {a d : Nat} (ha : a = 68 ∨ a = 69) {M0 M : Mem} (hC : MW W M0) (hV : VM W.1 M0 s) (h : SX a d M0 M) (x : Int32) : MW W (wI M a d x) ∧ VM W.1 (wI M a d x) (setS a s d x) ∧ ∀ M2, Rest (wI M a d x) M2 → SX a d M0 M2 := by
  obtain ⟨k, h1, h2, h3, h4⟩ := h
  have p8 := hW.1
  have K : Kp (fun b _ => b = a) M (wI M a d x) := Kp.w _ _ rfl
  refine ⟨?_, ⟨fun i hi => ?_, fun i hi => ?_, fun q hq => ?_, fun q hq => ?_, ?_⟩, fun M2 r => ?_⟩
  · obtain ⟨m1, m2, m3, m4, m5, m6⟩ := hC
    have f : ∀ b i, (b = 66 ∧ (i = 3 ∨ i = 8 ∨ i = 9)) ∨ b = 67 ∨ (72 ≤ b ∧ b ≤ 75) → (wI M a d x).1 b i = M0.1 b i := fun b i hb => by rw [K.1 b i (by omega)]; exact k.1 b i (by unfold PTm; omega)
    have g : ∀ b, b = 67 ∨ (72 ≤ b ∧ b ≤ 75) → (wI M a d x).1 b = M0.1 b := fun b hb => funext fun i => f b i (by omega)
    refine ⟨by rw [f 66 3 (by omega)]; exact m1, by rw [g 67 (by omega)]; exact m2, fun q hq => by rw [K.1 70 _ (by omega), h3 _ (by omega)]; exact m3 q hq, fun q hq => by rw [K.1 70 _ (by omega), h3 _ (by omega)]; exact m4 q hq, by rw [f 66 8 (by omega)]; exact m5, ?_⟩
    rw [f 66 9 (by omega), g 72 (by omega), g 73 (by omega), g 74 (by omega), g 75 (by omega)]
    exact m6
  · by_cases e : a = 68
    · rw [wI_1, if_pos e.symm, upd_a, setS, if_pos e]
      show _ = upd s.1 d x i
      rw [upd_a]
      by_cases z : i = d
      · rw [if_pos z, if_pos z]
      · rw [if_neg z, if_neg z, e, (h1 i hi).resolve_left (fun y => z y.2)]; exact hV.1 i hi
    · rw [wI_1, if_neg (fun z => e z.symm), setS, if_neg e, (h1 i hi).resolve_left (fun y => e y.1)]
      exact hV.1 i hi
  · by_cases e : a = 69
    · have e' : ¬ a = 68 := by omega
      rw [wI_1, if_pos e.symm, upd_a, setS, if_neg e']
      show _ = upd s.2.1 d x i
      rw [upd_a]
      by_cases z : i = d
      · rw [if_pos z, if_pos z]
      · rw [if_neg z, if_neg z, e, (h2 i hi).resolve_left (fun y => z y.2)]; exact hV.2.1 i hi
    · have e' : a = 68 := by omega
      rw [wI_1, if_neg (fun z => e z.symm), setS, if_pos e', (h2 i hi).resolve_left (fun y => e y.1)]
      exact hV.2.1 i hi
  · have : (setS a s d x).2.2 = s.2.2 := by unfold setS; split <;> rfl
    rw [K.1 70 q (by omega), h3 q (by omega), this]; exact hV.2.2.1 q hq
  · have : (setS a s d x).2.2 = s.2.2 := by unfold setS; split <;> rfl
    rw [K.1 70 _ (by omega), h3 _ (by omega), this]; exact hV.2.2.2.1 q hq
  · have : (setS a s d x).2.2 = s.2.2 := by unfold setS; split <;> rfl
    rw [K.1 66 5 (by omega), h4, this]; exact hV.2.2.2.2
  · obtain ⟨r0, r1, r2, r3⟩ := r
    refine ⟨(k.tr (K.mono (fun b i hb => by unfold PTm; omega))).tr r0, fun c hc => ?_, fun c hc => ?_, fun i hi => ?_, ?_⟩
    · by_cases z : a = 68 ∧ c = d
      · exact Or.inl z
      · right
        rw [(r1 c hc).1, wI_1]
        by_cases e : 68 = a
        · rw [if_pos e, upd_a, if_neg (fun y => z ⟨e.symm, y⟩), ← e]; exact (h1 c hc).resolve_left z
        · rw [if_neg e]; exact (h1 c hc).resolve_left z
    · by_cases z : a = 69 ∧ c = d
      · exact Or.inl z
      · right
        rw [(r1 c hc).2, wI_1]
        by_cases e : 69 = a
        · rw [if_pos e, upd_a, if_neg (fun y => z ⟨e.symm, y⟩), ← e]; exact (h2 c hc).resolve_left z
        · rw [if_neg e]; exact (h2 c hc).resolve_left z
    · rw [r2 i hi, K.1 70 i (by omega)]; exact h3 i hi
    · rw [r3, K.1 66 5 (by omega)]; exact h4
theorem SX.back {a d : Nat} (ha : a = 68 ∨ a = 69) {M0 M : Mem} (h : SX a d M0 M) : Rest M0 (wI M a d (M0.1 a d)) := by
  obtain ⟨k, h1, h2, h3, h4⟩ := h
  have K : Kp (fun b _ => b = a) M (wI M a d (M0.1 a d)) := Kp.w _ _ rfl
  refine ⟨k.tr (K.mono (fun b i hb => by unfold PTm; omega)), fun c hc => ⟨?_, ?_⟩, fun i hi => ?_, ?_⟩
  · rw [wI_1]
    by_cases e : 68 = a
    · rw [if_pos e, upd_a]
      by_cases z : c = d
      · rw [if_pos z, ← e, z]
      · rw [if_neg z, ← e]; exact (h1 c hc).resolve_left (fun y => z y.2)
    · rw [if_neg e]; exact (h1 c hc).resolve_left (fun y => e y.1.symm)
  · rw [wI_1]
    by_cases e : 69 = a
    · rw [if_pos e, upd_a]
      by_cases z : c = d
      · rw [if_pos z, ← e, z]
      · rw [if_neg z, ← e]; exact (h2 c hc).resolve_left (fun y => z y.2)
    · rw [if_neg e]; exact (h2 c hc).resolve_left (fun y => e y.1.symm)
  · rw [K.1 70 i (by omega)]; exact h3 i hi
  · rw [K.1 66 5 (by omega)]; exact h4
/-- the class's street in thought with one number of cell d set -/
theorem ThC.set {W : Wd} {s : St} {M0 M : Mem} (h : ThC W 42 M0 s M) {a : Nat} (ha : a = 68 ∨ a = 69) (d : Nat) (x : Int32) : ThC W 42 M0 (setS a s d x) (wI M (a - 25) d x) := by
  obtain ⟨h1, h2, h3, h4⟩ := h
  have K : Kp (fun b _ => b = a - 25) M (wI M (a - 25) d x) := Kp.w _ _ rfl
  refine ⟨h1.tr (K.mono (fun b i hb => by unfold PTc; omega)), h2.kp K (fun b i hb => by omega), ⟨fun i hi => ?_, fun i hi => ?_, fun q hq => ?_, fun q hq => ?_, ?_⟩, fun i hi => ?_⟩
  · by_cases e : a = 68
    · have e2 : 42 + 1 = a - 25 := by omega
      rw [wI_1, if_pos e2, upd_a, setS, if_pos e]
      show _ = upd s.1 d x i
      rw [upd_a, ← e2]
      by_cases z : i = d
      · rw [if_pos z, if_pos z]
      · rw [if_neg z, if_neg z]; exact h3.1 i hi
    · rw [wI_1, if_neg (by omega), setS, if_neg e]
      exact h3.1 i hi
  · by_cases e : a = 69
    · have e' : ¬ a = 68 := by omega
      have e2 : 42 + 2 = a - 25 := by omega
      rw [wI_1, if_pos e2, upd_a, setS, if_neg e']
      show _ = upd s.2.1 d x i
      rw [upd_a, ← e2]
      by_cases z : i = d
      · rw [if_pos z, if_pos z]
      · rw [if_neg z, if_neg z]; exact h3.2.1 i hi
    · have e' : a = 68 := by omega
      rw [wI_1, if_neg (by omega), setS, if_pos e']
      exact h3.2.1 i hi
  · have : (setS a s d x).2.2 = s.2.2 := by unfold setS; split <;> rfl
    rw [K.1 _ q (by omega), this]; exact h3.2.2.1 q hq
  · have : (setS a s d x).2.2 = s.2.2 := by unfold setS; split <;> rfl
    rw [K.1 _ _ (by omega), this]; exact h3.2.2.2.1 q hq
  · have : (setS a s d x).2.2 = s.2.2 := by unfold setS; split <;> rfl
    rw [K.1 42 4 (by omega), this]; exact h3.2.2.2.2
  · rw [K.1 _ _ (by omega), K.1 _ _ (by omega), K.1 _ _ (by omega)]; exact h4 i hi
def bw (f : Nat → Int32) : Nat → Int32
  | 0 => 0
  | k + 1 => if ¬ f k = -2 then bw f k else bw f k ||| slI 1 (nI k)
theorem under_c {W : Wd} (hW : okW W) {s : St} (hs : okS W.1 s) {M : Mem} (hC : CW W M) (hV : VS W.1 36 M s) (hz : Zr M) {sh k c d : Nat} (rw_ : Nat → Int64) (hrow : ∀ i, i < 60 → M.2.1 (27 + sh) i = rw_ i) (hel : ∀ i, i < 60 → okEl 1 (rw_ i)) (hk : k ≤ 60) (hc : c < 36) (hd : d < 36) (f : Nat → Int32) (hf : ∀ j, FirstR (Bad W (setS 69 s d (nI j)) c rw_) (min k 49) (f j)) : ∃ M1, fThought_fittingShoes M (27 + sh) (nI k) (nI c) (nI d) = some (bw f 3, M1) ∧ Kp PTc M M1 ∧ Zr M1 := by
  obtain ⟨R, eR, h1, h2, h3⟩ := loop0 (σ := Mem × Int32 × Int32) (fun j t => fThought_fittingShoes_L6 j t.1 (27 + sh) (nI k) (nI c) (nI d) t.2.1 t.2.2) (fun i t => t.2 = (bw f i, nI i) ∧ Kp PTc M t.1 ∧ CW W t.1 ∧ Zr t.1) (fun R => R.2 = bw f 3 ∧ Kp PTc M R.1 ∧ Zr R.1) 3 (fu_lt (by omega)) (M, 0, 0) ⟨rfl, Kp.rf _ _, hC, hz⟩
    (fun j i t hi hP => by
      obtain ⟨u1, u2⟩ := t
      obtain ⟨e2, K, C1, Z1⟩ := hP
      dsimp only at e2 K C1 Z1
      subst e2
      right
      have V1 : VS W.1 36 u1 s := hV.kp K (fun a i h => by unfold PTc PG at h; omega)
      obtain ⟨M2, b2, T2⟩ := begin_c hW K C1 V1 Z1
      have T3 := T2.set (a := 69) (Or.inr rfl) d (nI i)
      have hs3 : okS W.1 (setS 69 s d (nI i)) := shoe_ok hs d ⟨nI_pos' (by omega), (leR (b := 2) 2 rfl (by omega) (by omega)).mpr (by omega)⟩
      obtain ⟨r, M4, m, f1, f2, f3, f4⟩ := fw_c hW hs3 T3 rw_ hrow hel hk hc
      have er := first_un f1 (hf i)
      have h0 : ¬ (3 : Int32) ≤ nI i := nI_geL (b := 3) 3 rfl hi (by omega)
      refine ⟨(M4, bw f (i + 1), nI (i + 1)), ⟨rfl, f3.1, f3.2.1, f3.2.2.2⟩, ?_⟩
      show fThought_fittingShoes_L6_F (fThought_fittingShoes_L6 j) u1 (27 + sh) (nI k) (nI c) (nI d) (bw f i) (nI i) = _
      have f2' : fThought_firstWrongFromThen (wI M2 (42 + 2) d (nI i)) (27 + sh) (nI k) (nI c) = some (r, M4) := f2
      rw [fThought_fittingShoes_L6_F, if_neg h0, b2, Option.bind_some, stI_n hd (by omega), Option.bind_some, f2', Option.bind_some, er, nI_1, bw]
      by_cases y : f i = -2
      · rw [if_neg (fun z => z y), if_neg (fun z => z y)]
      · rw [if_pos y, if_pos y])
    (fun j t hP => by
      obtain ⟨u1, u2⟩ := t
      obtain ⟨e2, K, C1, Z1⟩ := hP
      dsimp only at e2 K C1 Z1
      subst e2
      refine ⟨(u1, bw f 3), ?_, rfl, K, Z1⟩
      show fThought_fittingShoes_L6_F (fThought_fittingShoes_L6 j) u1 (27 + sh) (nI k) (nI c) (nI d) (bw f 3) (nI 3) = _
      rw [fThought_fittingShoes_L6_F, if_pos (by decide)])
  obtain ⟨M1, r⟩ := R
  dsimp only at h1 h2 h3
  subst h1
  have eR' : fThought_fittingShoes_L6 FU M (27 + sh) (nI k) (nI c) (nI d) 0 0 = some (M1, bw f 3) := eR
  exact ⟨M1, by rw [fThought_fittingShoes, eR', Option.bind_some], h2, h3⟩
theorem under_m {W : Wd} (hW : okW W) {s : St} (hs : okS W.1 s) {M : Mem} (hC : MW W M) (hV : VM W.1 M s) {sh k c d : Nat} (hsh : sh < 6) (rw_ : Nat → Int64) (h89 : M.1 89 sh = nI k) (hrow : ∀ i, i < 60 → M.2.1 90 (60 * sh + i) = rw_ i) (hk : k ≤ 60) (hc : c < 36) (hd : d < 36) (f : Nat → Int32) (hf : ∀ j, FirstR (Bad W (setS 69 s d (nI j)) c rw_) (min k 49) (f j)) : ∃ M1, fMd_under M (nI sh) (nI c) (nI d) = some (bw f 3, M1) ∧ Rest M M1 := by
  obtain ⟨R, eR, h1, h2⟩ := loop0 (σ := Mem × Int32 × Int32) (fun j t => fMd_under_L14 j t.1 (nI sh) (nI c) (nI d) t.2.1 t.2.2) (fun i t => t.2 = (bw f i, nI i) ∧ SX 69 d M t.1) (fun R => R.2 = bw f 3 ∧ SX 69 d M R.1) 3 (fu_lt (by omega)) (M, 0, 0) ⟨rfl, SX.rf _ _ _⟩
    (fun j i t hi hP => by
      obtain ⟨u1, u2⟩ := t
      obtain ⟨e2, S1⟩ := hP
      dsimp only at e2 S1
      subst e2
      right
      obtain ⟨m1, m2, m3⟩ := S1.set hW (Or.inr rfl) hC hV (nI i)
      have hs3 : okS W.1 (setS 69 s d (nI i)) := shoe_ok hs d ⟨nI_pos' (by omega), (leR (b := 2) 2 rfl (by omega) (by omega)).mpr (by omega)⟩
      have K : Kp PTm M (wI u1 69 d (nI i)) := S1.1.tr (Kp.w _ _ (by unfold PTm; omega))
      obtain ⟨r, M4, f1, f2, f3⟩ := un_m hW hs3 m1 m2 hsh rw_ (by rw [K.1 89 sh (by unfold PTm; omega)]; exact h89) (fun i hi => by rw [K.2]; exact hrow i hi) hk hc
      have er := first_un f1 (hf i)
      have h0 : ¬ (3 : Int32) ≤ nI i := nI_geL (b := 3) 3 rfl hi (by omega)
      refine ⟨(M4, bw f (i + 1), nI (i + 1)), ⟨rfl, m3 M4 f3⟩, ?_⟩
      show fMd_under_L14_F (fMd_under_L14 j) u1 (nI sh) (nI c) (nI d) (bw f i) (nI i) = _
      rw [fMd_under_L14_F, if_neg h0, stI_n hd (by omega), Option.bind_some, f2, Option.bind_some, er, nI_1, bw]
      by_cases y : f i = -2
      · rw [if_neg (fun z => z y), if_neg (fun z => z y)]
      · rw [if_pos y, if_pos y])
    (fun j t hP => by
      obtain ⟨u1, u2⟩ := t
      obtain ⟨e2, S1⟩ := hP
      dsimp only at e2 S1
      subst e2
      refine ⟨(u1, bw f 3), ?_, rfl, S1⟩
      show fMd_under_L14_F (fMd_under_L14 j) u1 (nI sh) (nI c) (nI d) (bw f 3) (nI 3) = _
      rw [fMd_under_L14_F, if_pos (by decide)])
  obtain ⟨M1, r⟩ := R
  dsimp only at h1 h2
  subst h1
  have eR' : fMd_under_L14 FU M (nI sh) (nI c) (nI d) 0 0 = some (M1, bw f 3) := eR
  refine ⟨wI M1 69 d (M.1 69 d), ?_, h2.back (Or.inr rfl)⟩
  rw [fMd_under, rdI_n hd (by omega), Option.bind_some, eR', Option.bind_some]
  dsimp only
  rw [stI_n hd (by omega), Option.bind_some]
