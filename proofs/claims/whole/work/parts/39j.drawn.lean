/-! drawn -/
def hl (ce : Nat → Int32) (c : Int32) (h : Nat → Int32) : Nat → (Nat → Int32)
  | 0 => h
  | k + 1 => if ce k = c then upd (hl ce c h k) k (hl ce c h k k / 2) else hl ce c h k
def halS (W : Wd) (c : Int32) (s : St) : St := (s.1, s.2.1, s.2.2.1, hl s.2.2.1 c s.2.2.2.1 W.1, s.2.2.2.2)
theorem hl_ok {p : Nat} {ce h : Nat → Int32} {c : Int32} (hh : ∀ q, q < p → rng (h q) 9999) : ∀ k, k ≤ p → ∀ q, q < p → rng (hl ce c h k q) 9999 := by
  intro k
  induction k with
  | zero => intro _; exact hh
  | succ k ih =>
    intro hk q hq
    rw [hl]
    by_cases z : ce k = c
    · rw [if_pos z, upd_a]
      by_cases y : q = k
      · rw [if_pos y]
        obtain ⟨a, ha, ea⟩ := r9999.mp (ih (by omega) k (by omega))
        have : nI a / 2 = nI (a / 2) := pk_div (d := 2) (by omega) (by omega) (by omega)
        rw [ea, this]
        exact r9999.mpr ⟨_, by omega, rfl⟩
      · rw [if_neg y]; exact ih (by omega) q hq
    · rw [if_neg z]; exact ih (by omega) q hq
theorem hal_ok {W : Wd} {s : St} (hs : okS W.1 s) (c : Int32) : okS W.1 (halS W c s) := ⟨hs.1, hs.2.1, hs.2.2.1, hl_ok hs.2.2.2.1 W.1 (Nat.le_refl _), hs.2.2.2.2⟩
theorem halve_c {W : Wd} (hW : okW W) {M0 M : Mem} {s : St} (h : ThC W 42 M0 s M) (c : Int32) : ∃ M1, fStreet_halve M 42 (nI W.1) c = some M1 ∧ ThC W 42 M0 (halS W c s) M1 := by
  have p8 := hW.1
  obtain ⟨h1, h2, h3, h4⟩ := h
  obtain ⟨r, e, K, l1⟩ := loop0 (σ := Mem × Int32) (fun k t => fStreet_halve_L2 k t.1 42 (nI W.1) c t.2) (fun i t => t.2 = nI i ∧ Kp (fun a _ => a = 46) M t.1 ∧ ∀ q, q < W.1 → t.1.1 (42 + 4) q = hl s.2.2.1 c s.2.2.2.1 i q) (fun r => Kp (fun a _ => a = 46) M r ∧ ∀ q, q < W.1 → r.1 (42 + 4) q = hl s.2.2.1 c s.2.2.2.1 W.1 q) W.1 (fu_lt (by omega)) (M, 0) ⟨rfl, Kp.rf _ _, h3.2.2.2.1⟩
    (fun k i t hi hP => by
      obtain ⟨u1, u2⟩ := t
      obtain ⟨q1, K, l1⟩ := hP
      dsimp only at q1 K l1
      subst q1
      right
      have h0 : ¬ nI W.1 ≤ nI i := nI_ge hi (by omega)
      have hce : u1.1 (42 + 3) i = s.2.2.1 i := by rw [K.1 _ _ (by omega)]; exact h3.2.2.1 i hi
      have i8 : i < 8 := by omega
      have F0 : fStreet_halve_L2 (k + 1) u1 42 (nI W.1) c (nI i) = fStreet_halve_L2_F (fStreet_halve_L2 k) u1 42 (nI W.1) c (nI i) := rfl
      by_cases z : s.2.2.1 i = c
      · refine ⟨(wI u1 (42 + 4) i (u1.1 (42 + 4) i / 2), nI (i + 1)), ⟨rfl, K.tr (Kp.w _ _ rfl), fun q hq => ?_⟩, ?_⟩
        · dsimp only
          rw [wI_1, if_pos rfl, upd_a, hl, if_pos z, upd_a, l1 i hi, l1 q hq]
        · dsimp only
          rw [F0, fStreet_halve_L2_F, if_neg h0, rdI_n i8 (by omega), Option.bind_some, hce, if_neg (fun y => y z), rdI_n i8 (by omega), Option.bind_some, stI_n i8 (by omega), Option.bind_some, nI_1]
      · refine ⟨(u1, nI (i + 1)), ⟨rfl, K, fun q hq => ?_⟩, ?_⟩
        · dsimp only; rw [hl, if_neg z]; exact l1 q hq
        · dsimp only
          rw [F0, fStreet_halve_L2_F, if_neg h0, rdI_n i8 (by omega), Option.bind_some, hce, if_pos z, nI_1])
    (fun k t hP => by
      obtain ⟨u1, u2⟩ := t
      obtain ⟨q1, K, l1⟩ := hP
      dsimp only at q1 K l1
      subst q1
      refine ⟨u1, ?_, K, l1⟩
      show fStreet_halve_L2_F (fStreet_halve_L2 k) u1 42 (nI W.1) c (nI W.1) = _
      rw [fStreet_halve_L2_F, if_pos (Int32.le_refl _)])
  have e' : fStreet_halve_L2 FU M 42 (nI W.1) c 0 = some r := e
  refine ⟨r, by rw [fStreet_halve, e', Option.bind_some], h1.tr (K.mono (fun a i h => by unfold PTc; omega)), h2.kp K (fun a i h => by omega), ⟨fun i hi => ?_, fun i hi => ?_, fun q hq => ?_, l1, ?_⟩, fun i hi => ?_⟩
  · rw [K.1 _ _ (by omega)]; exact h3.1 i hi
  · rw [K.1 _ _ (by omega)]; exact h3.2.1 i hi
  · rw [K.1 _ _ (by omega)]; exact h3.2.2.1 q hq
  · rw [K.1 42 4 (by omega)]; exact h3.2.2.2.2
  · rw [K.1 _ _ (by omega), K.1 _ _ (by omega), K.1 _ _ (by omega)]; exact h4 i hi
/-- a cart comes, or none -/
def cartS (W : Wd) (k z : Int32) (s : St) : St := if k ≤ rmI (usI z 16) 12 then s else halS W (rmI (usI z 8) 36) s
theorem cart_ok {W : Wd} {s : St} (hs : okS W.1 s) (k z : Int32) : okS W.1 (cartS W k z s) := by
  unfold cartS
  split
  · exact hs
  · exact hal_ok hs _
def zN (z : Int32) : Int32 := z * 1103515245 + 12345
def dN (W : Wd) (k : Int32) : Nat → Int32 × St → Int32 × St
  | 0, t => t
  | n + 1, t => (zN (dN W k n t).1, stp W (cartS W k (zN (dN W k n t).1) (dN W k n t).2))
theorem dN_ok {W : Wd} (hW : okW W) (k : Int32) {t : Int32 × St} (hs : okS W.1 t.2) : ∀ n, okS W.1 (dN W k n t).2 := by
  intro n
  induction n with
  | zero => exact hs
  | succ n ih => exact stp_ok hW (cart_ok ih k _)
theorem year_c {W : Wd} (hW : okW W) (k z : Int32) {s : St} (hs : okS W.1 s) {M0 M : Mem} (h : ThC W 42 M0 s M) (m : Nat) (hm : m ≤ 1000) : ∃ M1, fThought_byDraws_L23 FU M (nI m) k z 0 = some (M1, (dN W k m (z, s)).1) ∧ ThC W 42 M0 (dN W k m (z, s)).2 M1 := by
  obtain ⟨R, e, h1, h2⟩ := loop0 (σ := Mem × Int32 × Int32) (fun j t => fThought_byDraws_L23 j t.1 (nI m) k t.2.1 t.2.2) (fun i t => t.2 = ((dN W k i (z, s)).1, nI i) ∧ ThC W 42 M0 (dN W k i (z, s)).2 t.1) (fun R => R.2 = (dN W k m (z, s)).1 ∧ ThC W 42 M0 (dN W k m (z, s)).2 R.1) m (fu_lt (by omega)) (M, z, 0) ⟨rfl, h⟩
    (fun j i t hi hP => by
      obtain ⟨u1, u2⟩ := t
      obtain ⟨q1, T⟩ := hP
      dsimp only at q1 T
      subst q1
      right
      have h0 : ¬ nI m ≤ nI i := nI_ge hi (by omega)
      have hsi := dN_ok hW k (t := (z, s)) hs i
      have F0 : fThought_byDraws_L23 (j + 1) u1 (nI m) k (dN W k i (z, s)).1 (nI i) = fThought_byDraws_L23_F (fThought_byDraws_L23 j) u1 (nI m) k (dN W k i (z, s)).1 (nI i) := rfl
      have pre : ∃ u', ThC W 42 M0 (cartS W k (zN (dN W k i (z, s)).1) (dN W k i (z, s)).2) u' ∧ fThought_byDraws_L23_F (fThought_byDraws_L23 j) u1 (nI m) k (dN W k i (z, s)).1 (nI i) = fThought_byDraws_J76_23 (fThought_byDraws_L23 j) u' (nI m) k (zN (dN W k i (z, s)).1) (nI i) := by
        by_cases y : k ≤ rmI (usI (zN (dN W k i (z, s)).1) 16) 12
        · refine ⟨u1, by rw [cartS, if_pos y]; exact T, ?_⟩
          have y' : k ≤ rmI (usI ((dN W k i (z, s)).1 * 1103515245 + 12345) 16) 12 := y
          rw [fThought_byDraws_L23_F, if_neg h0, if_pos y']
          rfl
        · obtain ⟨u', e, T'⟩ := halve_c hW T (rmI (usI (zN (dN W k i (z, s)).1) 8) 36)
          refine ⟨u', by rw [cartS, if_neg y]; exact T', ?_⟩
          have y' : ¬ k ≤ rmI (usI ((dN W k i (z, s)).1 * 1103515245 + 12345) 16) 12 := y
          have e' : fStreet_halve u1 42 (u1.1 2 4) (rmI (usI ((dN W k i (z, s)).1 * 1103515245 + 12345) 8) 36) = some u' := by rw [T.2.1.1]; exact e
          rw [fThought_byDraws_L23_F, if_neg h0, if_neg y', e', Option.bind_some]
          rfl
      obtain ⟨u', T', e'⟩ := pre
      obtain ⟨M2, e2, T2, -⟩ := T'.pass hW (Or.inl rfl) (cart_ok hsi k _)
      refine ⟨(M2, (dN W k (i + 1) (z, s)).1, nI (i + 1)), ⟨rfl, T2⟩, ?_⟩
      dsimp only
      rw [F0, e', fThought_byDraws_J76_23, e2, Option.bind_some, nI_1]
      rfl)
    (fun j t hP => by
      obtain ⟨u1, u2⟩ := t
      obtain ⟨q1, T⟩ := hP
      dsimp only at q1 T
      subst q1
      refine ⟨(u1, (dN W k m (z, s)).1), ?_, rfl, T⟩
      show fThought_byDraws_L23_F (fThought_byDraws_L23 j) u1 (nI m) k _ (nI m) = _
      rw [fThought_byDraws_L23_F, if_pos (Int32.le_refl _)])
  obtain ⟨M1, r⟩ := R
  dsimp only at h1 h2
  subst h1
  exact ⟨M1, e, h2⟩
def wlth (W : Wd) (s : St) (one : Option Nat) : Int32 := match one with
  | none => sumL s.2.2.2.1 W.1
  | some q => s.2.2.2.1 q
theorem wealth_c {W : Wd} (hW : okW W) {M0 M : Mem} {s : St} (h : ThC W 42 M0 s M) {one : Option Nat} (ho : okO W.1 one) : fStreet_wealth M 42 (oneI one) (M.1 2 4) = some (wlth W s one) := by
  have p8 := hW.1
  have hv := h.2.2.1
  rw [h.2.1.1]
  cases one with
  | none =>
    obtain ⟨r, e, hr⟩ := loop0 (σ := Int32 × Int32) (fun k t => fStreet_wealth_L17 k M 42 (nI W.1) t.1 t.2) (fun i t => t = (sumL s.2.2.2.1 i, nI i)) (fun r => r = sumL s.2.2.2.1 W.1) W.1 (fu_lt (by omega)) (0, 0) rfl
      (fun k i t hi hP => by
        subst hP
        right
        refine ⟨(sumL s.2.2.2.1 (i + 1), nI (i + 1)), rfl, ?_⟩
        have h0 : ¬ nI W.1 ≤ nI i := nI_ge hi (by omega)
        show fStreet_wealth_L17_F (fStreet_wealth_L17 k) M 42 (nI W.1) _ _ = _
        rw [fStreet_wealth_L17_F, if_neg h0, rdI_n (by omega) (by omega), Option.bind_some, hv.2.2.2.1 i hi, nI_1, sumL])
      (fun k t hP => by
        subst hP
        refine ⟨_, ?_, rfl⟩
        show fStreet_wealth_L17_F (fStreet_wealth_L17 k) M 42 (nI W.1) _ _ = _
        rw [fStreet_wealth_L17_F, if_pos (Int32.le_refl _)])
    subst hr
    have e' : fStreet_wealth_L17 FU M 42 (nI W.1) 0 0 = some (sumL s.2.2.2.1 W.1) := e
    show fStreet_wealth M 42 (-1) (nI W.1) = _
    rw [fStreet_wealth, if_pos rfl, e', Option.bind_some]
    rfl
  | some q =>
    have hq : q < W.1 := ho
    show fStreet_wealth M 42 (nI q) (nI W.1) = _
    rw [fStreet_wealth, if_neg (m1_ne (by omega)), rdI_n (by omega) (by omega), Option.bind_some, hv.2.2.2.1 q hq]
    rfl
def yrs (W : Wd) (k : Int32) (m : Nat) (s : St) (one : Option Nat) (seed : Int32) : Nat → Int32 × Int32
  | 0 => (seed, 0)
  | n + 1 => ((dN W k m ((yrs W k m s one seed n).1, s)).1, (yrs W k m s one seed n).2 + wlth W (dN W k m ((yrs W k m s one seed n).1, s)).2 one)
theorem drawn_c {W : Wd} (hW : okW W) {s : St} (hs : okS W.1 s) {M : Mem} (hC : CW W M) (hV : VS W.1 36 M s) (hz : Zr M) (seed k : Int32) (n m : Nat) (hn : n ≤ 1000) (hm : m ≤ 1000) {one : Option Nat} (ho : okO W.1 one) : ∃ M1, fThought_byDraws M seed (nI n) (nI m) k (oneI one) = some ((yrs W k m s one seed n).2, M1) ∧ Kp PTc M M1 ∧ Zr M1 := by
  obtain ⟨R, e, h1, h2, h3⟩ := loop0 (σ := Mem × Int32 × Int32 × Int32) (fun j t => fThought_byDraws_L9 j t.1 (nI n) (nI m) k (oneI one) t.2.1 t.2.2.1 t.2.2.2) (fun i t => t.2 = ((yrs W k m s one seed i).1, (yrs W k m s one seed i).2, nI i) ∧ Kp PTc M t.1 ∧ CW W t.1 ∧ Zr t.1) (fun R => R.2 = (yrs W k m s one seed n).2 ∧ Kp PTc M R.1 ∧ Zr R.1) n (fu_lt (by omega)) (M, seed, 0, 0) ⟨rfl, Kp.rf _ _, hC, hz⟩
    (fun j i t hi hP => by
      obtain ⟨u1, u2⟩ := t
      obtain ⟨q1, K, C1, Z1⟩ := hP
      dsimp only at q1 K C1 Z1
      subst q1
      right
      have h0 : ¬ nI n ≤ nI i := nI_ge hi (by omega)
      have V1 : VS W.1 36 u1 s := hV.kp K (fun a i h => by unfold PTc PG at h; omega)
      obtain ⟨M2, b2, T2⟩ := begin_c hW K C1 V1 Z1
      obtain ⟨M3, b3, T3⟩ := year_c hW k (yrs W k m s one seed i).1 hs T2 m hm
      refine ⟨(M3, (yrs W k m s one seed (i + 1)).1, (yrs W k m s one seed (i + 1)).2, nI (i + 1)), ⟨rfl, T3.1, T3.2.1, T3.2.2.2⟩, ?_⟩
      show fThought_byDraws_L9_F (fThought_byDraws_L9 j) u1 (nI n) (nI m) k (oneI one) _ _ (nI i) = _
      rw [fThought_byDraws_L9_F, if_neg h0, b2, Option.bind_some, b3, Option.bind_some]
      dsimp only
      rw [wealth_c hW T3 ho, Option.bind_some, nI_1]
      rfl)
    (fun j t hP => by
      obtain ⟨u1, u2⟩ := t
      obtain ⟨q1, K, C1, Z1⟩ := hP
      dsimp only at q1 K C1 Z1
      subst q1
      refine ⟨(u1, (yrs W k m s one seed n).2), ?_, rfl, K, Z1⟩
      show fThought_byDraws_L9_F (fThought_byDraws_L9 j) u1 (nI n) (nI m) k (oneI one) _ _ (nI n) = _
      rw [fThought_byDraws_L9_F, if_pos (Int32.le_refl _)])
  obtain ⟨M1, r⟩ := R
  dsimp only at h1 h2 h3
  subst h1
  have e' : fThought_byDraws_L9 FU M (nI n) (nI m) k (oneI one) seed 0 0 = some (M1, (yrs W k m s one seed n).2) := e
  exact ⟨M1, by rw [fThought_byDraws, e', Option.bind_some], h2, h3⟩
theorem halve_m {W : Wd} (hW : okW W) {M0 M : Mem} {s : St} (h : ThM W 93 M0 s M) (x z c : Int32) (hc : c = rmI (usI z 8) 36) : ∃ M1, fMd_drawn_L125 FU M x z c 0 = some M1 ∧ ThM W 93 M0 (cartS W (rmI x 100) z s) M1 := by
  have p8 := hW.1
  obtain ⟨h1, h2, h3, k1, k2, k3⟩ := h
  obtain ⟨r, e, K, l1⟩ := loop0 (σ := Mem × Int32) (fun k t => fMd_drawn_L125 k t.1 x z c t.2) (fun i t => t.2 = nI i ∧ Kp (fun a j => a = 70 ∧ 24 ≤ j ∧ j < 32) M t.1 ∧ ∀ q, q < W.1 → t.1.1 70 (24 + q) = if rmI x 100 ≤ rmI (usI z 16) 12 then s.2.2.2.1 q else hl s.2.2.1 c s.2.2.2.1 i q) (fun r => Kp (fun a j => a = 70 ∧ 24 ≤ j ∧ j < 32) M r ∧ ∀ q, q < W.1 → r.1 70 (24 + q) = if rmI x 100 ≤ rmI (usI z 16) 12 then s.2.2.2.1 q else hl s.2.2.1 c s.2.2.2.1 W.1 q) W.1 (fu_lt (by omega)) (M, 0) ⟨rfl, Kp.rf _ _, fun q hq => by rw [hl, ite_self]; exact h3.2.2.2.1 q hq⟩
    (fun k i t hi hP => by
      obtain ⟨u1, u2⟩ := t
      obtain ⟨q1, K, l1⟩ := hP
      dsimp only at q1 K l1
      subst q1
      right
      have hp : u1.1 66 3 = nI W.1 := by rw [K.1 66 3 (by omega)]; exact h2.1
      have h0 : ¬ nI W.1 ≤ nI i := nI_ge hi (by omega)
      have hce : u1.1 70 i = s.2.2.1 i := by rw [K.1 _ _ (by omega)]; exact h3.2.2.1 i hi
      have i24 : (24 : Int32) + nI i = nI (24 + i) := nI_add 24 i
      have F0 : fMd_drawn_L125 (k + 1) u1 x z c (nI i) = if ¬ s.2.2.1 i = c then fMd_drawn_L125 k u1 x z c (nI (i + 1)) else if rmI x 100 ≤ rmI (usI z 16) 12 then fMd_drawn_L125 k u1 x z c (nI (i + 1)) else fMd_drawn_L125 k (wI u1 70 (24 + i) (u1.1 70 (24 + i) / 2)) x z c (nI (i + 1)) := by
        show fMd_drawn_L125_F (fMd_drawn_L125 k) u1 x z c (nI i) = _
        rw [fMd_drawn_L125_F, hp, if_neg h0, rdI_n (by omega) (by omega), Option.bind_some, hce, i24, rdI_n (by omega) (by omega), Option.bind_some, stI_n (by omega) (by omega), Option.bind_some, nI_1]
      dsimp only
      rw [F0]
      by_cases y : s.2.2.1 i = c
      · rw [if_neg (fun w => w y)]
        by_cases w : rmI x 100 ≤ rmI (usI z 16) 12
        · rw [if_pos w]
          refine ⟨(u1, nI (i + 1)), ⟨rfl, K, fun q hq => ?_⟩, rfl⟩
          have := l1 q hq
          rw [if_pos w] at this ⊢
          exact this
        · rw [if_neg w]
          refine ⟨(wI u1 70 (24 + i) (u1.1 70 (24 + i) / 2), nI (i + 1)), ⟨rfl, K.tr (Kp.w _ _ (by omega)), fun q hq => ?_⟩, rfl⟩
          have a1 := l1 i hi
          have a2 := l1 q hq
          rw [if_neg w] at a1 a2
          dsimp only
          rw [if_neg w, wI_1, if_pos rfl, upd_a, hl, if_pos y, upd_a, a1, a2]
          have : (24 + q = 24 + i) ↔ q = i := by omega
          simp only [this]
      · rw [if_pos y]
        refine ⟨(u1, nI (i + 1)), ⟨rfl, K, fun q hq => ?_⟩, rfl⟩
        have := l1 q hq
        rw [hl, if_neg y]
        exact this)
    (fun k t hP => by
      obtain ⟨u1, u2⟩ := t
      obtain ⟨q1, K, l1⟩ := hP
      dsimp only at q1 K l1
      subst q1
      have hp : u1.1 66 3 = nI W.1 := by rw [K.1 66 3 (by omega)]; exact h2.1
      refine ⟨u1, ?_, K, l1⟩
      show fMd_drawn_L125_F (fMd_drawn_L125 k) u1 x z c (nI W.1) = _
      rw [fMd_drawn_L125_F, hp, if_pos (Int32.le_refl _)])
  refine ⟨r, e, h1.tr (K.mono (fun a i h => by unfold PTm; omega)), h2.kp K (fun a i h => by omega) hW.1, ⟨fun i hi => ?_, fun i hi => ?_, fun q hq => ?_, fun q hq => ?_, ?_⟩, fun i hi => ?_, fun i hi => ?_, ?_⟩
  · have : (cartS W (rmI x 100) z s).1 = s.1 := by unfold cartS; split <;> rfl
    rw [K.1 _ _ (by omega), this]; exact h3.1 i hi
  · have : (cartS W (rmI x 100) z s).2.1 = s.2.1 := by unfold cartS; split <;> rfl
    rw [K.1 _ _ (by omega), this]; exact h3.2.1 i hi
  · have : (cartS W (rmI x 100) z s).2.2.1 = s.2.2.1 := by unfold cartS; split <;> rfl
    rw [K.1 _ _ (by omega), this]; exact h3.2.2.1 q hq
  · rw [l1 q hq, cartS]
    by_cases w : rmI x 100 ≤ rmI (usI z 16) 12
    · rw [if_pos w, if_pos w]
    · rw [if_neg w, if_neg w, hc]
      rfl
  · have : (cartS W (rmI x 100) z s).2.2.2.2 = s.2.2.2.2 := by unfold cartS; split <;> rfl
    rw [K.1 66 5 (by omega), this]; exact h3.2.2.2.2
  · rw [K.1 _ _ (by omega), K.1 _ _ (by omega)]; exact k1 i hi
  · rw [K.1 _ _ (by omega)]; exact k2 i hi
  · rw [K.1 _ _ (by omega)]; exact k3
theorem year_m {W : Wd} (hW : okW W) (x z : Int32) {s : St} (hs : okS W.1 s) {M0 M : Mem} (h : ThM W 93 M0 s M) (m : Nat) (hm : m ≤ 1000) (hx : rmI (x / 100) 100 = nI m) : ∃ M1, fMd_drawn_L88 FU M x z 0 = some (M1, (dN W (rmI x 100) m (z, s)).1) ∧ ThM W 93 M0 (dN W (rmI x 100) m (z, s)).2 M1 := by
  obtain ⟨R, e, h1, h2⟩ := loop0 (σ := Mem × Int32 × Int32) (fun j t => fMd_drawn_L88 j t.1 x t.2.1 t.2.2) (fun i t => t.2 = ((dN W (rmI x 100) i (z, s)).1, nI i) ∧ ThM W 93 M0 (dN W (rmI x 100) i (z, s)).2 t.1) (fun R => R.2 = (dN W (rmI x 100) m (z, s)).1 ∧ ThM W 93 M0 (dN W (rmI x 100) m (z, s)).2 R.1) m (fu_lt (by omega)) (M, z, 0) ⟨rfl, h⟩
    (fun j i t hi hP => by
      obtain ⟨u1, u2⟩ := t
      obtain ⟨q1, T⟩ := hP
      dsimp only at q1 T
      subst q1
      right
      have h0 : ¬ nI m ≤ nI i := nI_ge hi (by omega)
      have hsi := dN_ok hW (rmI x 100) (t := (z, s)) hs i
      obtain ⟨u', e', T'⟩ := halve_m hW T x (zN (dN W (rmI x 100) i (z, s)).1) _ rfl
      obtain ⟨M2, e2, T2⟩ := T'.pass hW (by omega) (cart_ok hsi _ _)
      refine ⟨(M2, (dN W (rmI x 100) (i + 1) (z, s)).1, nI (i + 1)), ⟨rfl, T2⟩, ?_⟩
      have e'' : fMd_drawn_L125 FU u1 x ((dN W (rmI x 100) i (z, s)).1 * 1103515245 + 12345) (rmI (usI ((dN W (rmI x 100) i (z, s)).1 * 1103515245 + 12345) 8) 36) 0 = some u' := e'
      show fMd_drawn_L88_F (fMd_drawn_L88 j) u1 x (dN W (rmI x 100) i (z, s)).1 (nI i) = _
      rw [fMd_drawn_L88_F, hx, if_neg h0, e'', Option.bind_some, e2, Option.bind_some, nI_1]
      rfl)
    (fun j t hP => by
      obtain ⟨u1, u2⟩ := t
      obtain ⟨q1, T⟩ := hP
      dsimp only at q1 T
      subst q1
      refine ⟨(u1, (dN W (rmI x 100) m (z, s)).1), ?_, rfl, T⟩
      show fMd_drawn_L88_F (fMd_drawn_L88 j) u1 x _ (nI m) = _
      rw [fMd_drawn_L88_F, hx, if_pos (Int32.le_refl _)])
  obtain ⟨M1, r⟩ := R
  dsimp only at h1 h2
  subst h1
  exact ⟨M1, e, h2⟩
theorem wealth_m {W : Wd} (hW : okW W) {M0 M : Mem} {s : St} (h : ThM W 93 M0 s M) {one : Option Nat} (ho : okO W.1 one) (x5 : Int32) : fMd_drawn_L194 FU M (oneI one) x5 0 = some (x5 + wlth W s one) := by
  have p8 := hW.1
  have h3 := h.2.1.1
  cases one with
  | none =>
    obtain ⟨r, e, hr⟩ := loop0 (σ := Int32 × Int32) (fun k t => fMd_drawn_L194 k M (-1) t.1 t.2) (fun i t => t = (x5 + sumL s.2.2.2.1 i, nI i)) (fun r => r = x5 + sumL s.2.2.2.1 W.1) W.1 (fu_lt (by omega)) (x5, 0) (by show (x5, (0 : Int32)) = (x5 + 0, 0); rw [Int32.add_zero])
      (fun k i t hi hP => by
        subst hP
        right
        refine ⟨(x5 + sumL s.2.2.2.1 (i + 1), nI (i + 1)), rfl, ?_⟩
        have h0 : ¬ nI W.1 ≤ nI i := nI_ge hi (by omega)
        show fMd_drawn_L194_F (fMd_drawn_L194 k) M (-1) _ _ = _
        rw [fMd_drawn_L194_F, h3, if_neg h0, if_pos rfl, fMd_drawn_J214_194, has_m h p8 hi, Option.bind_some, nI_1, sumL, Int32.add_assoc])
      (fun k t hP => by
        subst hP
        refine ⟨_, ?_, rfl⟩
        show fMd_drawn_L194_F (fMd_drawn_L194 k) M (-1) _ _ = _
        rw [fMd_drawn_L194_F, h3, if_pos (Int32.le_refl _)])
    subst hr
    exact e
  | some q =>
    have hq : q < W.1 := ho
    obtain ⟨r, e, hr⟩ := loop0 (σ := Int32 × Int32) (fun k t => fMd_drawn_L194 k M (nI q) t.1 t.2) (fun i t => t = (if q < i then x5 + s.2.2.2.1 q else x5, nI i)) (fun r => r = x5 + s.2.2.2.1 q) W.1 (fu_lt (by omega)) (x5, 0) (by rw [if_neg (Nat.not_lt_zero q)]; rfl)
      (fun k i t hi hP => by
        subst hP
        right
        refine ⟨(if q < i + 1 then x5 + s.2.2.2.1 q else x5, nI (i + 1)), rfl, ?_⟩
        have h0 : ¬ nI W.1 ≤ nI i := nI_ge hi (by omega)
        show fMd_drawn_L194_F (fMd_drawn_L194 k) M (nI q) _ _ = _
        rw [fMd_drawn_L194_F, h3, if_neg h0, if_neg (m1_ne (by omega))]
        by_cases y : i = q
        · subst y
          rw [if_neg (fun z => z rfl), fMd_drawn_J214_194, has_m h p8 hi, Option.bind_some, nI_1, if_neg (Nat.lt_irrefl i), if_pos (Nat.lt_succ_self i)]
        · rw [if_pos (fun z => y ((nI_eq (by omega) (by omega)).mp z)), nI_1]
          have : (q < i + 1) ↔ (q < i) := by omega
          simp only [this])
      (fun k t hP => by
        subst hP
        refine ⟨x5 + s.2.2.2.1 q, ?_, rfl⟩
        show fMd_drawn_L194_F (fMd_drawn_L194 k) M (nI q) _ _ = _
        rw [fMd_drawn_L194_F, h3, if_pos (Int32.le_refl _), if_pos hq])
    subst hr
    exact e
theorem drawn_m {W : Wd} (hW : okW W) {s : St} (hs : okS W.1 s) {M : Mem} (hC : MW W M) (hV : VM W.1 M s) (seed x : Int32) (n m : Nat) (hn : n ≤ 1000) (hm : m ≤ 1000) (ex : x / 10000 = nI n) (em : rmI (x / 100) 100 = nI m) {one : Option Nat} (ho : okO W.1 one) : ∃ M1, fMd_drawn_J58 M seed x (oneI one) = some ((yrs W (rmI x 100) m s one seed n).2, M1) ∧ Rest M M1 := by
  obtain ⟨M0, e0, t0, r0⟩ := keep_m hW hC hV (Rest.rf M) 93 (by omega)
  obtain ⟨R, e, h1, h2⟩ := loop0 (σ := Mem × Int32 × Int32 × Int32) (fun j t => fMd_drawn_L75 j t.1 x (oneI one) t.2.1 t.2.2.1 t.2.2.2) (fun i t => t.2 = ((yrs W (rmI x 100) m s one seed i).1, (yrs W (rmI x 100) m s one seed i).2, nI i) ∧ Rest M t.1 ∧ Kpt 93 M t.1) (fun R => R.2 = (yrs W (rmI x 100) m s one seed n).2 ∧ Rest M R.1) n (fu_lt (by omega)) (M0, seed, 0, 0) ⟨rfl, r0, t0.2.2.2⟩
    (fun j i t hi hP => by
      obtain ⟨u1, u2⟩ := t
      obtain ⟨q1, R1, k1⟩ := hP
      dsimp only at q1 R1 k1
      subst q1
      right
      have h0 : ¬ nI n ≤ nI i := nI_ge hi (by omega)
      have T1 : ThM W 93 M s u1 := ⟨R1.1, hC.rest hW R1, hV.rest hW.1 R1, k1⟩
      obtain ⟨M3, b3, T3⟩ := year_m hW x (yrs W (rmI x 100) m s one seed i).1 hs T1 m hm em
      obtain ⟨M4, b4, r4, k4⟩ := T3.lays (by omega)
      refine ⟨(M4, (yrs W (rmI x 100) m s one seed (i + 1)).1, (yrs W (rmI x 100) m s one seed (i + 1)).2, nI (i + 1)), ⟨rfl, r4, k4⟩, ?_⟩
      show fMd_drawn_L75_F (fMd_drawn_L75 j) u1 x (oneI one) _ _ (nI i) = _
      rw [fMd_drawn_L75_F, ex, if_neg h0, b3, Option.bind_some]
      dsimp only
      rw [wealth_m hW T3 ho, Option.bind_some, b4, Option.bind_some, nI_1]
      rfl)
    (fun j t hP => by
      obtain ⟨u1, u2⟩ := t
      obtain ⟨q1, R1, k1⟩ := hP
      dsimp only at q1 R1 k1
      subst q1
      refine ⟨(u1, (yrs W (rmI x 100) m s one seed n).2), ?_, rfl, R1⟩
      show fMd_drawn_L75_F (fMd_drawn_L75 j) u1 x (oneI one) _ _ (nI n) = _
      rw [fMd_drawn_L75_F, ex, if_pos (Int32.le_refl _)])
  obtain ⟨M1, r⟩ := R
  dsimp only at h1 h2
  subst h1
  have e' : fMd_drawn_L75 FU M0 x (oneI one) seed 0 0 = some (M1, (yrs W (rmI x 100) m s one seed n).2) := e
  exact ⟨M1, by rw [fMd_drawn_J58, e0, Option.bind_some, e', Option.bind_some], h2⟩
theorem s_drawn (seed x z : Int32) : Sim (fun M => fSh_drawn M seed x z) (fun M => fMd_drawn M seed x z) := sim_t fun W s hW hs => by
  have o1 : ¬ (1 : Int32) = 0 := by decide
  by_cases hx : x < 0
  · exact ⟨-1, .const fun M _ => by simp [fSh_drawn, hx], .const fun M _ => by simp [fMd_drawn, hx]⟩
  by_cases hn : x / 10000 < 1 ∨ 30 < x / 10000
  · refine ⟨-1, .const fun M _ => ?_, .const fun M _ => ?_⟩
    · simp only [fSh_drawn, hx, if_false]; grind
    · simp only [fMd_drawn, hx, if_false, fMd_within]; grind
  obtain ⟨n1, n2, n3⟩ : ¬ x / 10000 < 1 ∧ ¬ 30 < x / 10000 ∧ fMd_within (x / 10000) 1 30 = 1 := by unfold fMd_within; grind
  by_cases hm : rmI (x / 100) 100 < 1 ∨ 40 < rmI (x / 100) 100
  · refine ⟨-1, .const fun M _ => ?_, .const fun M _ => ?_⟩
    · simp only [fSh_drawn, hx, n1, n2, if_false]; grind
    · simp only [fMd_drawn, hx, n3, o1, if_false, fMd_within]; grind
  obtain ⟨m1, m2, m3⟩ : ¬ rmI (x / 100) 100 < 1 ∧ ¬ 40 < rmI (x / 100) 100 ∧ fMd_within (rmI (x / 100) 100) 1 40 = 1 := by unfold fMd_within; grind
  by_cases hk : 12 < rmI x 100
  · have hk' : ¬ rmI x 100 ≤ 12 := Int32.not_le.mpr hk
    exact ⟨-1, .const fun M _ => by simp [fSh_drawn, hx, n1, n2, m1, m2, hk'], .const fun M _ => by simp [fMd_drawn, hx, n3, m3, hk]⟩
  have hk' : rmI x 100 ≤ 12 := Int32.not_lt.mp hk
  obtain ⟨n, hn30, en⟩ := in_lit (x := x / 10000) (b := 31) 31 (by omega) rfl (by grind) (by grind)
  obtain ⟨m, hm40, em⟩ := in_lit (x := rmI (x / 100) 100) (b := 41) 41 (by omega) rfl (by grind) (by grind)
  rcases who_cases W.1 hW.1 z with ⟨w1, w2⟩ | ⟨one, ho, ez, w⟩
  · exact ⟨-1, .const fun M hC => by simp [fSh_drawn, hx, n1, n2, m1, m2, hk', w1, pers_c hC, w2], .const fun M hC => by simp [fMd_drawn, hx, n3, m3, hk, w1, pers_m hW hC, w2]⟩
  refine ⟨(yrs W (rmI x 100) m s one seed n).2, fun M hC hV hz => ?_, fun M hC hV => ?_⟩
  · obtain ⟨M1, e, a1, a2⟩ := drawn_c hW hs hC hV hz seed (rmI x 100) n m (by omega) (by omega) ho
    refine ⟨M1, ?_, a1, a2⟩
    have b : fSh_drawn M seed x z = fSh_drawn_J75 M seed x z (x / 10000) (rmI (x / 100) 100) := by
      simp only [fSh_drawn, hx, n1, n2, m1, m2, hk', if_false, if_true]
      rcases w with w | ⟨w, w'⟩
      · rw [if_pos w]
      · rw [if_neg w, pers_c hC, w', if_pos o1]
    show fSh_drawn M seed x z = _
    rw [b, fSh_drawn_J75, en, em, ez, e, Option.bind_some]
  · obtain ⟨M1, e, a1⟩ := drawn_m hW hs hC hV seed x n m (by omega) (by omega) en em ho
    refine ⟨M1, ?_, a1⟩
    have b : fMd_drawn M seed x z = fMd_drawn_J58 M seed x z := by
      simp only [fMd_drawn, hx, n3, m3, o1, hk, if_false]
      rcases w with w | ⟨w, w'⟩
      · rw [if_pos w]
      · rw [if_neg w, pers_m hW hC, w', if_pos o1]
    show fMd_drawn M seed x z = _
    rw [b, ez, e]
