/-! BETS: Euclid, the reduced fraction -/
theorem g_step (a b : Nat) : Nat.gcd b (a % b) = Nat.gcd a b := by rw [Nat.gcd_comm b, ← Nat.gcd_rec, Nat.gcd_comm]
theorem eu {α : Type} (P : Nat → Nat → Nat → Nat → Option α) (ret : Nat → α) (h : ∀ f c a b, a < 2 ^ 63 → b < 2 ^ 63 → c < 200 → P (f + 1) c a b = if b = 0 then some (ret a) else P f (c + 1) b (a % b)) : ∀ k a b c f, a < 2 ^ 63 → b < 2 ^ 63 → b < 2 ^ k → c + 2 * k < 200 → 2 * k < f → P f c a b = some (ret (Nat.gcd a b)) := by
  intro k
  induction k with
  | zero =>
    intro a b c f ha hb hk hc hf
    have b0 : b = 0 := by simpa using hk
    obtain ⟨f', rfl⟩ : ∃ f', f = f' + 1 := ⟨f - 1, by omega⟩
    rw [h f' c a b ha hb (by omega), if_pos b0, b0, Nat.gcd_zero_right]
  | succ k ih =>
    intro a b c f ha hb hk hc hf
    obtain ⟨f', rfl⟩ : ∃ f', f = f' + 2 := ⟨f - 2, by omega⟩
    rw [h (f' + 1) c a b ha hb (by omega)]
    by_cases b0 : b = 0
    · rw [if_pos b0, b0, Nat.gcd_zero_right]
    have r1 : a % b < b := Nat.mod_lt _ (by omega)
    rw [if_neg b0, h f' (c + 1) b (a % b) hb (by omega) (by omega)]
    by_cases r0 : a % b = 0
    · rw [if_pos r0, ← g_step a b, r0, Nat.gcd_zero_right]
    have r2 : b % (a % b) < a % b := Nat.mod_lt _ (by omega)
    have r3 : b % (a % b) + (a % b) * (b / (a % b)) = b := Nat.mod_add_div b (a % b)
    have r4 : 1 ≤ b / (a % b) := (Nat.le_div_iff_mul_le (by omega)).mpr (by omega)
    have r5 : (a % b) * 1 ≤ (a % b) * (b / (a % b)) := Nat.mul_le_mul_left _ r4
    have r6 : 2 ^ (k + 1) = 2 * 2 ^ k := by rw [Nat.pow_succ, Nat.mul_comm]
    rw [if_neg r0, ih (a % b) (b % (a % b)) (c + 1 + 1) f' (by omega) (by omega) (by omega) (by omega) (by omega), g_step, g_step]
theorem rm_n {a b : Nat} (ha : a < 2 ^ 63) (h0 : 0 < b) (hb : b < 2 ^ 63) : rmL (lN a) (lN b) = lN (a % b) := pk_lRem ha h0 hb
theorem ln_ne {b : Nat} (h0 : 0 < b) (hb : b < 2 ^ 63) : ¬ lN b = 0 := fun q => by
  have := (pk_lEQ (b := 0) hb (by omega)).mp q
  omega
theorem rmo_n {a b : Nat} (ha : a < 2 ^ 63) (h0 : 0 < b) (hb : b < 2 ^ 63) : rmLo (lN a) (lN b) = some (lN (a % b)) := by rw [rmLo, if_neg (ln_ne h0 hb), rm_n ha h0 hb]
theorem dvo_n {a b : Nat} (ha : a < 2 ^ 63) (h0 : 0 < b) (hb : b < 2 ^ 63) : dvL (lN a) (lN b) = some (lN (a / b)) := by rw [dvL, if_neg (ln_ne h0 hb), pk_lDiv ha h0 hb]
theorem cgcd {a b : Nat} (ha : a < 2 ^ 63) (hb : b < 2 ^ 63) : fBets_commonDivisor (lN a) (lN b) = some (lN (Nat.gcd a b)) := by
  have := eu (fun f c a b => fBets_commonDivisor_L9 f (lN a) (lN b) (nI c)) lN (fun f c a b ha hb hc => by
    show fBets_commonDivisor_L9_F (fBets_commonDivisor_L9 f) (lN a) (lN b) (nI c) = _
    have c2 : ¬ (200 : Int32) ≤ nI c := fun z => absurd ((leL (b := 200) 200 rfl (by omega) (by omega)).mp z) (by omega)
    rw [fBets_commonDivisor_L9_F, if_neg c2]
    by_cases b0 : b = 0
    · subst b0
      have : lg_cmp (lN 0) 0 = 0 := (lg_cmp_eq _ _).mpr rfl
      rw [if_pos this, if_pos rfl]
    · have : ¬ lg_cmp (lN b) 0 = 0 := fun z => ln_ne (by omega) hb ((lg_cmp_eq _ _).mp z)
      rw [if_neg this, if_neg b0, rmo_n ha (by omega) hb, Option.bind_some, rm_n ha (by omega) hb, nI_1]) 63 a b 0 FU ha hb hb (by omega) (fu_lt (by omega))
  rw [fBets_commonDivisor, show (0 : Int32) = nI 0 from rfl, this, Option.bind_some]
theorem mgcd {a b : Nat} (ha : a < 2 ^ 63) (hb : b < 2 ^ 63) : fMd_gcd (lN a) (lN b) = some (lN (Nat.gcd a b)) := by
  have := eu (fun f _ a b => fMd_gcd_L6 f (lN a) (lN b)) lN (fun f c a b ha hb hc => by
    show fMd_gcd_L6_F (fMd_gcd_L6 f) (lN a) (lN b) = _
    rw [fMd_gcd_L6_F]
    by_cases b0 : b = 0
    · subst b0
      have : lg_cmp (lN 0) 0 = 0 := (lg_cmp_eq _ _).mpr rfl
      rw [if_pos this, if_pos rfl]
    · have : ¬ lg_cmp (lN b) 0 = 0 := fun z => ln_ne (by omega) hb ((lg_cmp_eq _ _).mp z)
      rw [if_neg this, if_neg b0, rmo_n ha (by omega) hb, Option.bind_some, rm_n ha (by omega) hb]) 63 a b 0 FU ha hb hb (by omega) (fu_lt (by omega))
  rw [fMd_gcd, this, Option.bind_some]
theorem sc (a b k : Nat) (hk : 0 < k) : a * k / Nat.gcd (a * k) (b * k) = a / Nat.gcd a b ∧ b * k / Nat.gcd (a * k) (b * k) = b / Nat.gcd a b := by
  rw [Nat.gcd_mul_right, Nat.mul_div_mul_right _ _ hk, Nat.mul_div_mul_right _ _ hk]
  exact ⟨rfl, rfl⟩
theorem fr_eq {U L N Q : Nat} (h : U * Q = N * L) (hQ : 0 < Q) (hL : 0 < L) : U / Nat.gcd U L = N / Nat.gcd N Q ∧ L / Nat.gcd U L = Q / Nat.gcd N Q := by
  obtain ⟨a1, a2⟩ := sc U L Q hQ
  obtain ⟨b1, b2⟩ := sc N Q L hL
  rw [h, Nat.mul_comm L Q] at a1 a2
  exact ⟨a1.symm.trans b1, a2.symm.trans b2⟩
def Qq (p : Nat → Nat) : Nat → Nat
  | 0 => 1
  | j + 1 => Qq p j * p j
def Nn (p : Nat → Nat) : Nat → Nat
  | 0 => 0
  | j + 1 => Nn p j * p j + 100 * Qq p j
theorem qn_le (p : Nat → Nat) : ∀ j, (∀ i, i < j → 1 ≤ p i ∧ p i ≤ 999) → 1 ≤ Qq p j ∧ Qq p j ≤ 1000 ^ j ∧ Nn p j * 10 ≤ j * 1000 ^ j := by
  intro j
  induction j with
  | zero => intro _; simp [Qq, Nn]
  | succ j ih =>
    intro h
    obtain ⟨h1, h2, h3⟩ := ih (fun i hi => h i (by omega))
    obtain ⟨p1, p2⟩ := h j (by omega)
    have e : 1000 ^ (j + 1) = 1000 ^ j * 1000 := Nat.pow_succ ..
    refine ⟨Nat.mul_le_mul h1 p1, ?_, ?_⟩
    · rw [e]; exact Nat.mul_le_mul h2 (by omega)
    · have a1 : Nn p j * 10 * p j ≤ j * 1000 ^ j * 1000 := Nat.mul_le_mul h3 (by omega)
      have a2 : (j + 1) * 1000 ^ (j + 1) = j * 1000 ^ j * 1000 + 1000 * 1000 ^ j := by rw [e, Nat.add_mul, Nat.one_mul, Nat.mul_assoc, Nat.mul_comm (1000 ^ j) 1000]
      have a3 : Nn p (j + 1) * 10 = Nn p j * 10 * p j + 1000 * Qq p j := by
        show (Nn p j * p j + 100 * Qq p j) * 10 = _
        rw [Nat.add_mul, Nat.mul_right_comm]
        omega
      rw [a2, a3]
      have a4 : 1000 * Qq p j ≤ 1000 * 1000 ^ j := Nat.mul_le_mul_left _ h2
      omega
theorem qn_63 (p : Nat → Nat) {j : Nat} (hj : j ≤ 6) (h : ∀ i, i < j → 1 ≤ p i ∧ p i ≤ 999) : 1 ≤ Qq p j ∧ Qq p j < 2 ^ 63 ∧ Nn p j < 2 ^ 63 := by
  obtain ⟨h1, h2, h3⟩ := qn_le p j h
  have e : 1000 ^ j ≤ 1000 ^ 6 := Nat.pow_le_pow_right (by omega) hj
  have e2 : j * 1000 ^ j ≤ 6 * 1000 ^ 6 := Nat.mul_le_mul hj e
  omega
theorem fr_step (N Q y : Nat) (hQ : 0 < Q) (hy : 0 < y) : (N / Nat.gcd N Q * y + 100 * (Q / Nat.gcd N Q)) / Nat.gcd (N / Nat.gcd N Q * y + 100 * (Q / Nat.gcd N Q)) (Q / Nat.gcd N Q * y) = (N * y + 100 * Q) / Nat.gcd (N * y + 100 * Q) (Q * y) ∧ Q / Nat.gcd N Q * y / Nat.gcd (N / Nat.gcd N Q * y + 100 * (Q / Nat.gcd N Q)) (Q / Nat.gcd N Q * y) = Q * y / Nat.gcd (N * y + 100 * Q) (Q * y) := by
  have g0 : 0 < Nat.gcd N Q := Nat.gcd_pos_of_pos_right _ hQ
  have e1 : N / Nat.gcd N Q * Nat.gcd N Q = N := Nat.div_mul_cancel (Nat.gcd_dvd_left N Q)
  have e2 : Q / Nat.gcd N Q * Nat.gcd N Q = Q := Nat.div_mul_cancel (Nat.gcd_dvd_right N Q)
  generalize hA : N / Nat.gcd N Q = A at *
  generalize hB : Q / Nat.gcd N Q = B at *
  have f1 : N * y + 100 * Q = (A * y + 100 * B) * Nat.gcd N Q := by
    rw [Nat.add_mul, Nat.mul_right_comm, e1, Nat.mul_assoc, e2]
  have f2 : Q * y = B * y * Nat.gcd N Q := by rw [Nat.mul_right_comm, e2]
  rw [f1, f2]
  obtain ⟨s1, s2⟩ := sc (A * y + 100 * B) (B * y) _ g0
  exact ⟨s1.symm, s2.symm⟩
/-- what the class's reckoning leaves: all but cell 33 -/
def KB (M M' : Mem) : Prop := (∀ a, a ≠ 33 → M'.1 a = M.1 a) ∧ (∀ a, a ≠ 33 → M'.2.1 a = M.2.1 a) ∧ M'.2.2 = M.2.2
theorem KB.rf (M : Mem) : KB M M := ⟨fun _ _ => rfl, fun _ _ => rfl, rfl⟩
theorem KB.tr {M M1 M2 : Mem} (h : KB M M1) (k : KB M1 M2) : KB M M2 := ⟨fun a n => (k.1 a n).trans (h.1 a n), fun a n => (k.2.1 a n).trans (h.2.1 a n), k.2.2.trans h.2.2⟩
theorem KB.l (M : Mem) (i : Nat) (x : Int64) : KB M (wL M 33 i x) := ⟨fun _ _ => rfl, fun a n => if_neg n, rfl⟩
theorem KB.i (M : Mem) (i : Nat) (x : Int32) : KB M (wI M 33 i x) := ⟨fun a n => if_neg n, fun _ _ => rfl, rfl⟩
theorem add_c {M : Mem} {N Q y : Nat} (hN : N * y + 100 * Q < 2 ^ 63) (hQ : Q * y < 2 ^ 63) (q0 : 0 < Q) (y0 : 0 < y) (hA : M.2.1 33 0 = lN (N / Nat.gcd N Q)) (hB : M.2.1 33 1 = lN (Q / Nat.gcd N Q)) : ∃ M', fBets_add M (lN y) = some M' ∧ KB M M' ∧ M'.1 = M.1 ∧ M'.2.1 33 0 = lN ((N * y + 100 * Q) / Nat.gcd (N * y + 100 * Q) (Q * y)) ∧ M'.2.1 33 1 = lN (Q * y / Nat.gcd (N * y + 100 * Q) (Q * y)) := by
  obtain ⟨s1, s2⟩ := fr_step N Q y q0 y0
  have u1 : N / Nat.gcd N Q ≤ N := Nat.div_le_self _ _
  have u2 : Q / Nat.gcd N Q ≤ Q := Nat.div_le_self _ _
  have u3 : 0 < Q / Nat.gcd N Q := Nat.div_pos (Nat.le_of_dvd q0 (Nat.gcd_dvd_right N Q)) (Nat.gcd_pos_of_pos_right _ q0)
  generalize N / Nat.gcd N Q = A at *
  generalize Q / Nat.gcd N Q = B at *
  have v1 : A * y + 100 * B < 2 ^ 63 := by
    have := Nat.mul_le_mul_right y u1
    omega
  have v2 : B * y < 2 ^ 63 := by
    have := Nat.mul_le_mul_right y u2
    omega
  have v3 : 0 < B * y := Nat.mul_pos u3 y0
  have l100 : (100 : Int64) = lN 100 := rfl
  have e1 : ∀ x z, (wL (wL M 33 0 x) 33 1 z).2.1 33 0 = x := fun _ _ => rfl
  have e2 : ∀ x z, (wL (wL M 33 0 x) 33 1 z).2.1 33 1 = z := fun _ _ => rfl
  have e3 : ∀ x, (wL M 33 0 x).2.1 33 1 = M.2.1 33 1 := fun _ => rfl
  have e4 : ∀ x z w, (wL (wL (wL M 33 0 x) 33 1 z) 33 0 w).2.1 33 1 = z := fun _ _ _ => rfl
  have e : fBets_add M (lN y) = Option.bind (fBets_commonDivisor (lN (A * y + 100 * B)) (lN (B * y))) fun v1 => if (lg_cmp v1 1) ≤ 0 then some (wL (wL M 33 0 (lN (A * y + 100 * B))) 33 1 (lN (B * y))) else Option.bind (dvL (lN (A * y + 100 * B)) v1) fun _ => Option.bind (dvL (lN (B * y)) v1) fun _ => some (wL (wL (wL (wL M 33 0 (lN (A * y + 100 * B))) 33 1 (lN (B * y))) 33 0 (lN (A * y + 100 * B) / v1)) 33 1 (lN (B * y) / v1)) := by
    rw [fBets_add]
    simp only [e1, e2, e3, e4, hA, hB]
    rw [l100, lN_mul, lN_mul, lN_mul, lN_add]
  have g0 : 0 < Nat.gcd (A * y + 100 * B) (B * y) := Nat.gcd_pos_of_pos_right _ v3
  have g1 : Nat.gcd (A * y + 100 * B) (B * y) ≤ B * y := Nat.le_of_dvd v3 (Nat.gcd_dvd_right _ _)
  rw [e, cgcd v1 v2, Option.bind_some]
  by_cases d1 : Nat.gcd (A * y + 100 * B) (B * y) ≤ 1
  · have d : Nat.gcd (A * y + 100 * B) (B * y) = 1 := by omega
    rw [d] at s1 s2
    rw [Nat.div_one] at s1 s2
    have c : lg_cmp (lN (Nat.gcd (A * y + 100 * B) (B * y))) 1 ≤ 0 := (lg_cmp_le _ _).mpr ((pk_lLE (b := 1) (by omega) (by omega)).mpr d1)
    rw [if_pos c]
    exact ⟨_, rfl, (KB.l _ _ _).tr (KB.l _ _ _), rfl, by rw [← s1]; rfl, by rw [← s2]; rfl⟩
  · have c : ¬ lg_cmp (lN (Nat.gcd (A * y + 100 * B) (B * y))) 1 ≤ 0 := fun z => d1 ((pk_lLE (b := 1) (by omega) (by omega)).mp ((lg_cmp_le _ _).mp z))
    rw [if_neg c, dvo_n v1 g0 (by omega), Option.bind_some, dvo_n v2 g0 (by omega), Option.bind_some, pk_lDiv v1 g0 (by omega), pk_lDiv v2 g0 (by omega)]
    exact ⟨_, rfl, (((KB.l _ _ _).tr (KB.l _ _ _)).tr (KB.l _ _ _)).tr (KB.l _ _ _), rfl, by rw [← s1]; rfl, by rw [← s2]; rfl⟩
/-- a number that is a way's: what it pays -/
def okP (v : Int64) : Prop := ∃ p : Nat, 1 ≤ p ∧ p ≤ 999 ∧ v = lN p
theorem okP_c {v : Int64} : okP v ↔ ¬ lg_cmp v 1 < 0 ∧ ¬ 0 < lg_cmp v 999 := by
  rw [lg_cmp_lt, lg_cmp_gt]
  constructor
  · rintro ⟨p, h1, h2, rfl⟩
    have l1 : (1 : Int64) = lN 1 := rfl
    have l9 : (999 : Int64) = lN 999 := rfl
    rw [l1, l9, pk_lLT (by omega) (by omega), pk_lLT (by omega) (by omega)]
    omega
  · rintro ⟨h1, h2⟩
    have h0 : ¬ v < 0 := fun z => h1 (Int64.lt_of_lt_of_le z (by decide))
    obtain ⟨k, hk, rfl⟩ := pk_lOf h0
    have l1 : (1 : Int64) = lN 1 := rfl
    have l9 : (999 : Int64) = lN 999 := rfl
    rw [l1, pk_lLT (by omega) (by omega)] at h1
    rw [l9, pk_lLT (by omega) (by omega)] at h2
    exact ⟨k, by omega, by omega, rfl⟩
theorem short_i {v : Int64} (h : okEl 1 v) : v.toInt32.toInt = v.toInt := by
  obtain ⟨h1, h2⟩ : (-32768 : Int64) ≤ v ∧ v ≤ 32767 := h
  rw [Int64.le_iff_toInt_le] at h1 h2
  have c1 : (-32768 : Int64).toInt = -32768 := by decide
  have c2 : (32767 : Int64).toInt = 32767 := by decide
  rw [c1] at h1
  rw [c2] at h2
  rw [Int64.toInt_toInt32]
  unfold Int.bmod
  have e32 : ((2 ^ 32 : Nat) : Int) = 4294967296 := by decide
  simp only [e32]
  split <;> omega
theorem okP_m {v : Int64} (h : okEl 1 v) : okP v ↔ ¬ fMd_within v.toInt32 1 999 = 0 := by
  constructor
  · rintro ⟨p, h1, h2, rfl⟩
    unfold fMd_within
    rw [lN_i, if_neg (fun z => absurd ((ltR (b := 1) 1 rfl (by omega) (by omega)).mp z) (by omega)), if_neg (fun z => absurd ((ltL (b := 999) 999 rfl (by omega) (by omega)).mp z) (by omega))]
    decide
  · intro z
    unfold fMd_within at z
    by_cases q1 : v.toInt32 < 1
    · rw [if_pos q1] at z; exact absurd rfl z
    rw [if_neg q1] at z
    by_cases q2 : 999 < v.toInt32
    · rw [if_pos q2] at z; exact absurd rfl z
    rw [Int32.lt_iff_toInt_lt, short_i h] at q1 q2
    have c1 : (1 : Int32).toInt = 1 := by decide
    have c2 : (999 : Int32).toInt = 999 := by decide
    rw [c1] at q1
    rw [c2] at q2
    refine ⟨v.toInt.toNat, by omega, by omega, ?_⟩
    apply Int64.toInt_inj.mp
    rw [pk_lT (by omega)]
    omega
/-- how many ways a row tells -/
theorem ways_ex (r : Nat → Int64) : ∀ m, ∃ w, w ≤ m ∧ (w = m ∨ w < m ∧ ¬ okP (r w)) ∧ ∀ i, i < w → okP (r i) := by
  intro m
  induction m with
  | zero => exact ⟨0, Nat.le_refl _, Or.inl rfl, fun i h => absurd h (Nat.not_lt_zero i)⟩
  | succ m ih =>
    obtain ⟨w, h1, h2, h3⟩ := ih
    rcases h2 with rfl | ⟨h2, h4⟩
    · by_cases q : okP (r w)
      · refine ⟨w + 1, Nat.le_refl _, Or.inl rfl, fun i hi => ?_⟩
        by_cases z : i = w
        · rw [z]; exact q
        · exact h3 i (by omega)
      · exact ⟨w, by omega, Or.inr ⟨by omega, q⟩, h3⟩
    · exact ⟨w, by omega, Or.inr ⟨by omega, h4⟩, h3⟩
/-- the best way of the first j -/
def bN (p : Nat → Nat) : Nat → Nat
  | 0 => 0
  | j + 1 => if j = 0 then 0 else if p j ≤ p (bN p j) then bN p j else j
theorem bN_lt (p : Nat → Nat) : ∀ j, bN p (j + 1) < j + 1 := by
  intro j
  induction j with
  | zero => simp [bN]
  | succ j ih =>
    unfold bN
    rw [if_neg (by omega)]
    split <;> omega
def bS (p : Nat → Nat) (j : Nat) : Int32 := if j = 0 then -2 else nI (bN p j)
/-- a row of shorts, how long, and its ways -/
def RowW (r : Nat → Int64) (p : Nat → Nat) (k w : Nat) : Prop := w ≤ min k 6 ∧ k ≤ 60 ∧ (w = min k 6 ∨ w < min k 6 ∧ ¬ okP (r w)) ∧ (∀ i, i < w → 1 ≤ p i ∧ p i ≤ 999 ∧ r i = lN (p i)) ∧ ∀ i, i < 60 → okEl 1 (r i)
theorem row_w (r : Nat → Int64) {k : Nat} (hk : k ≤ 60) (hel : ∀ i, i < 60 → okEl 1 (r i)) : ∃ p w, RowW r p k w := by
  obtain ⟨w, h1, h2, h3⟩ := ways_ex r (min k 6)
  refine ⟨fun i => (r i).toInt.toNat, w, h1, hk, h2, fun i hi => ?_, hel⟩
  obtain ⟨p, p1, p2, p3⟩ := h3 i hi
  have e : (r i).toInt.toNat = p := by rw [p3, pk_lT (by omega)]; rfl
  dsimp only
  rw [e]
  exact ⟨p1, p2, p3⟩
theorem bS_s {p : Nat → Nat} {j : Nat} : bS p (j + 1) = if j = 0 then nI 0 else if p j ≤ p (bN p j) then nI (bN p j) else nI j := by
  show nI (if j = 0 then 0 else if p j ≤ p (bN p j) then bN p j else j) = _
  by_cases z : j = 0
  · rw [if_pos z, if_pos z]
  · rw [if_neg z, if_neg z]
    by_cases y : p j ≤ p (bN p j)
    · rw [if_pos y, if_pos y]
    · rw [if_neg y, if_neg y]
theorem bN_l (p : Nat → Nat) {j : Nat} (h : 0 < j) : bN p j < j := by
  obtain ⟨d, rfl⟩ : ∃ d, j = d + 1 := ⟨j - 1, by omega⟩
  exact bN_lt p d
/-- what cell 33 holds after j ways -/
def At33 (p : Nat → Nat) (j : Nat) (M : Mem) : Prop := M.2.1 33 0 = lN (Nn p j / Nat.gcd (Nn p j) (Qq p j)) ∧ M.2.1 33 1 = lN (Qq p j / Nat.gcd (Nn p j) (Qq p j)) ∧ M.1 33 2 = bS p j
theorem read_l {r : Nat → Int64} {p : Nat → Nat} {k w a : Nat} {M : Mem} (h : RowW r p k w) (ha : a ≠ 33) (hr : ∀ i, i < 60 → M.2.1 a i = r i) : ∀ d j f M', j + d = w → d < f → KB M M' → At33 p j M' → ∃ M2, fBets_read_L26 f M' a (nI (min k 6)) (nI j) = some M2 ∧ KB M M2 ∧ At33 p w M2 := by
  obtain ⟨h1, h0, h2, h3, h4⟩ := h
  have m6 : min k 6 ≤ 6 := Nat.min_le_right _ _
  intro d
  induction d with
  | zero =>
    intro j f M' hj hf hK hA
    obtain ⟨f', rfl⟩ : ∃ f', f = f' + 1 := ⟨f - 1, by omega⟩
    obtain rfl : j = w := by omega
    refine ⟨M', ?_, hK, hA⟩
    show fBets_read_L26_F (fBets_read_L26 f') M' a (nI (min k 6)) (nI j) = _
    rw [fBets_read_L26_F]
    rcases h2 with h2 | ⟨h2, h5⟩
    · rw [if_pos ((nI_leI (by omega) (by omega)).mpr (by omega))]
    · have c0 : ¬ nI (min k 6) ≤ nI j := fun z => absurd ((nI_leI (by omega) (by omega)).mp z) (by omega)
      have rj : M'.2.1 a j = r j := by rw [hK.2.1 a ha]; exact hr j (by omega)
      rw [if_neg c0, rdL_n (by omega) (by omega), Option.bind_some, rj]
      by_cases q1 : lg_cmp (r j) 1 < 0
      · rw [if_pos q1]
      · have q2 : 0 < lg_cmp (r j) 999 := Classical.byContradiction fun z => h5 (okP_c.mpr ⟨q1, z⟩)
        rw [if_neg q1, Option.bind_some, if_pos q2]
  | succ d ih =>
    intro j f M' hj hf hK hA
    obtain ⟨f', rfl⟩ : ∃ f', f = f' + 1 := ⟨f - 1, by omega⟩
    show ∃ M2, fBets_read_L26_F (fBets_read_L26 f') M' a (nI (min k 6)) (nI j) = some M2 ∧ _
    have c0 : ¬ nI (min k 6) ≤ nI j := fun z => absurd ((nI_leI (by omega) (by omega)).mp z) (by omega)
    obtain ⟨p1, p2, p3⟩ := h3 j (by omega)
    have rj : M'.2.1 a j = r j := by rw [hK.2.1 a ha]; exact hr j (by omega)
    obtain ⟨o1, o2⟩ := okP_c.mp ⟨p j, p1, p2, p3⟩
    obtain ⟨b1, b2, b3⟩ := qn_63 p (j := j + 1) (by omega) (fun i hi => ⟨(h3 i (by omega)).1, (h3 i (by omega)).2.1⟩)
    obtain ⟨b4, -, -⟩ := qn_63 p (j := j) (by omega) (fun i hi => ⟨(h3 i (by omega)).1, (h3 i (by omega)).2.1⟩)
    obtain ⟨M1, e1, K1, i1, x1, x2⟩ := add_c (M := M') (N := Nn p j) (Q := Qq p j) (y := p j) b3 b2 b4 p1 hA.1 hA.2.1
    have i2 : M1.1 33 2 = bS p j := by rw [i1]; exact hA.2.2
    have K2 := hK.tr K1
    have rj1 : M1.2.1 a j = r j := by rw [K2.2.1 a ha]; exact hr j (by omega)
    rw [fBets_read_L26_F, if_neg c0, rdL_n (by omega) (by omega), Option.bind_some, rj, if_neg o1, Option.bind_some, if_neg o2, Option.bind_some, p3, e1, Option.bind_some, i2]
    by_cases z : j = 0
    · have zb : bS p j = -2 := if_pos z
      rw [if_pos zb, nI_1]
      exact ih (j + 1) f' _ (by omega) (by omega) (K2.tr (KB.i _ _ _)) ⟨x1, x2, by rw [bS_s, if_pos z, z]; rfl⟩
    · have zb : bS p j = nI (bN p j) := if_neg z
      have zl : bN p j < j := bN_l p (by omega)
      have zn : ¬ nI (bN p j) = -2 := m2_ne (by omega)
      have rb : M1.2.1 a (bN p j) = lN (p (bN p j)) := by rw [K2.2.1 a ha, hr _ (by omega)]; exact (h3 _ (by omega)).2.2
      have pb := (h3 (bN p j) (by omega)).2.1
      rw [zb, if_neg zn, rdL_n (by omega) (by omega), Option.bind_some, rdL_n (by omega) (by omega), Option.bind_some, rj1, rb, p3, nI_1]
      by_cases y : p j ≤ p (bN p j)
      · have y' : lg_cmp (lN (p j)) (lN (p (bN p j))) ≤ 0 := (lg_cmp_le _ _).mpr ((pk_lLE (by omega) (by omega)).mpr y)
        rw [if_pos y']
        exact ih (j + 1) f' _ (by omega) (by omega) K2 ⟨x1, x2, by rw [bS_s, if_neg z, if_pos y, i2, zb]⟩
      · have y' : ¬ lg_cmp (lN (p j)) (lN (p (bN p j))) ≤ 0 := fun q => y ((pk_lLE (by omega) (by omega)).mp ((lg_cmp_le _ _).mp q))
        rw [if_neg y']
        exact ih (j + 1) f' _ (by omega) (by omega) (K2.tr (KB.i _ _ _)) ⟨x1, x2, by rw [bS_s, if_neg z, if_neg y]; rfl⟩
theorem read_c {r : Nat → Int64} {p : Nat → Nat} {k w a : Nat} {M : Mem} (h : RowW r p k w) (ha : a ≠ 33) (hr : ∀ i, i < 60 → M.2.1 a i = r i) : ∃ M2, fBets_read M a (nI k) = some M2 ∧ KB M M2 ∧ At33 p w M2 := by
  obtain ⟨M2, e, K, A⟩ := read_l h ha hr w 0 FU (wI (wL (wL M 33 0 0) 33 1 1) 33 2 (-2)) (by omega) (fu_lt (by have := h.1; have := Nat.min_le_right k 6; omega)) (((KB.l _ _ _).tr (KB.l _ _ _)).tr (KB.i _ _ _)) ⟨by show (0 : Int64) = lN (0 / Nat.gcd 0 1); rw [Nat.zero_div]; rfl, by show (1 : Int64) = lN (1 / Nat.gcd 0 1); rw [Nat.gcd_zero_left]; rfl, rfl⟩
  refine ⟨M2, ?_, K, A⟩
  have e6 : mnI (nI k) 6 = nI (min k 6) := mnI_n (b := 6) (by have := h.2.1; omega) (by omega)
  rw [fBets_read, e6, show (0 : Int32) = nI 0 from rfl, show (0 : Int64) = 0 from rfl, e, Option.bind_some]
/-! BETS: the reference -/
theorem ways_m {r : Nat → Int64} {p : Nat → Nat} {k w s : Nat} {M : Mem} (h : RowW r p k w) (hs : s < 6) (h89 : M.1 89 s = nI k) (hr : ∀ i, i < 60 → M.2.1 90 (60 * s + i) = r i) : fMd_waysOf M (nI s) = some (nI w) := by
  obtain ⟨h1, h0, h2, h3, h4⟩ := h
  have m6 : min k 6 ≤ 6 := Nat.min_le_right _ _
  have mk : min k 6 ≤ k := Nat.min_le_left _ _
  have L : ∀ d j f, j + d = w → d < f → fMd_waysOf_L2 f M (nI s) (nI j) = some (nI w) := by
    intro d
    induction d with
    | zero =>
      intro j f hj hf
      obtain ⟨f', rfl⟩ : ∃ f', f = f' + 1 := ⟨f - 1, by omega⟩
      obtain rfl : j = w := by omega
      show fMd_waysOf_L2_F (fMd_waysOf_L2 f') M (nI s) (nI j) = _
      rw [fMd_waysOf_L2_F, rdI_n hs (by omega), Option.bind_some, h89]
      by_cases q1 : k ≤ j
      · rw [if_pos ((nI_leI (by omega) (by omega)).mpr q1)]
      have q1' : ¬ nI k ≤ nI j := fun z => q1 ((nI_leI (by omega) (by omega)).mp z)
      rw [if_neg q1']
      by_cases q2 : 6 ≤ j
      · rw [if_pos ((leL (b := 6) 6 rfl (by omega) (by omega)).mpr q2)]
      have q2' : ¬ (6 : Int32) ≤ nI j := fun z => q2 ((leL (b := 6) 6 rfl (by omega) (by omega)).mp z)
      have q3 : ¬ okP (r j) := by
        rcases h2 with h2 | ⟨h2, h5⟩
        · omega
        · exact h5
      have q4 : fMd_within (r j).toInt32 1 999 = 0 := Classical.byContradiction fun z => q3 ((okP_m (h4 j (by omega))).mpr z)
      rw [if_neg q2', told_n M s j hs (by omega), Option.bind_some, hr j (by omega), if_pos q4]
    | succ d ih =>
      intro j f hj hf
      obtain ⟨f', rfl⟩ : ∃ f', f = f' + 1 := ⟨f - 1, by omega⟩
      show fMd_waysOf_L2_F (fMd_waysOf_L2 f') M (nI s) (nI j) = _
      have q1' : ¬ nI k ≤ nI j := fun z => absurd ((nI_leI (by omega) (by omega)).mp z) (by omega)
      have q2' : ¬ (6 : Int32) ≤ nI j := fun z => absurd ((leL (b := 6) 6 rfl (by omega) (by omega)).mp z) (by omega)
      have q4 : ¬ fMd_within (r j).toInt32 1 999 = 0 := (okP_m (h4 j (by omega))).mp ⟨p j, h3 j (by omega)⟩
      rw [fMd_waysOf_L2_F, rdI_n hs (by omega), Option.bind_some, h89, if_neg q1', if_neg q2', told_n M s j hs (by omega), Option.bind_some, hr j (by omega), if_neg q4, nI_1]
      exact ih (j + 1) f' (by omega) (by omega)
  rw [fMd_waysOf, show (0 : Int32) = nI 0 from rfl, L w 0 FU (by omega) (fu_lt (by omega)), Option.bind_some]
def Ll (p : Nat → Nat) : Nat → Nat
  | 0 => 1
  | j + 1 => Ll p j / Nat.gcd (Ll p j) (p j) * p j
theorem ll_dvd (p : Nat → Nat) (j : Nat) : p j ∣ Ll p (j + 1) ∧ Ll p j ∣ Ll p (j + 1) := by
  constructor
  · exact Nat.dvd_mul_left _ _
  · have e1 : Ll p j / Nat.gcd (Ll p j) (p j) * Nat.gcd (Ll p j) (p j) = Ll p j := Nat.div_mul_cancel (Nat.gcd_dvd_left _ _)
    obtain ⟨c, hc⟩ := Nat.gcd_dvd_right (Ll p j) (p j)
    refine ⟨c, ?_⟩
    show Ll p j / Nat.gcd (Ll p j) (p j) * p j = Ll p j * c
    calc Ll p j / Nat.gcd (Ll p j) (p j) * p j = Ll p j / Nat.gcd (Ll p j) (p j) * (Nat.gcd (Ll p j) (p j) * c) := by rw [← hc]
      _ = Ll p j / Nat.gcd (Ll p j) (p j) * Nat.gcd (Ll p j) (p j) * c := (Nat.mul_assoc _ _ _).symm
      _ = Ll p j * c := by rw [e1]
theorem ll_le (p : Nat → Nat) : ∀ j, (∀ i, i < j → 1 ≤ p i) → 1 ≤ Ll p j ∧ Ll p j ≤ Qq p j := by
  intro j
  induction j with
  | zero => intro _; exact ⟨Nat.le_refl _, Nat.le_refl _⟩
  | succ j ih =>
    intro h
    obtain ⟨h1, h2⟩ := ih (fun i hi => h i (by omega))
    have g0 : 0 < Nat.gcd (Ll p j) (p j) := Nat.gcd_pos_of_pos_left _ h1
    have g1 : 1 ≤ Ll p j / Nat.gcd (Ll p j) (p j) := Nat.div_pos (Nat.le_of_dvd h1 (Nat.gcd_dvd_left _ _)) g0
    exact ⟨Nat.mul_le_mul g1 (h j (by omega)), Nat.mul_le_mul_right _ (Nat.le_trans (Nat.div_le_self _ _) h2)⟩
theorem ll_all (p : Nat → Nat) {w : Nat} : ∀ d j, j + d = w → Ll p j ∣ Ll p w := by
  intro d
  induction d with
  | zero => intro j hj; obtain rfl : j = w := by omega
            exact Nat.dvd_refl _
  | succ d ih => intro j hj; exact Nat.dvd_trans (ll_dvd p j).2 (ih (j + 1) (by omega))
theorem ll_p (p : Nat → Nat) {w i : Nat} (h : i < w) : p i ∣ Ll p w := Nat.dvd_trans (ll_dvd p i).1 (ll_all p (w - (i + 1)) (i + 1) (by omega))
def Uu (p : Nat → Nat) (L : Nat) : Nat → Nat
  | 0 => 0
  | j + 1 => Uu p L j + 100 * (L / p j)
theorem uu_q (p : Nat → Nat) {w : Nat} : ∀ j, j ≤ w → Uu p (Ll p w) j * Qq p j = Nn p j * Ll p w := by
  intro j
  induction j with
  | zero => intro _; simp [Uu, Nn]
  | succ j ih =>
    intro hj
    have h := ih (by omega)
    have e : Ll p w / p j * p j = Ll p w := Nat.div_mul_cancel (ll_p p (by omega))
    show (Uu p (Ll p w) j + 100 * (Ll p w / p j)) * (Qq p j * p j) = (Nn p j * p j + 100 * Qq p j) * Ll p w
    calc (Uu p (Ll p w) j + 100 * (Ll p w / p j)) * (Qq p j * p j) = Uu p (Ll p w) j * Qq p j * p j + 100 * Qq p j * (Ll p w / p j * p j) := by
          rw [Nat.add_mul]
          congr 1
          · rw [Nat.mul_assoc]
          · rw [Nat.mul_assoc, Nat.mul_assoc, Nat.mul_left_comm (Ll p w / p j)]
      _ = Nn p j * Ll p w * p j + 100 * Qq p j * Ll p w := by rw [h, e]
      _ = (Nn p j * p j + 100 * Qq p j) * Ll p w := by rw [Nat.add_mul, Nat.mul_right_comm]
theorem uu_mono (p : Nat → Nat) (L : Nat) {w : Nat} : ∀ d j, j + d = w → Uu p L j ≤ Uu p L w := by
  intro d
  induction d with
  | zero => intro j hj; obtain rfl : j = w := by omega
            exact Nat.le_refl _
  | succ d ih => intro j hj; exact Nat.le_trans (Nat.le_add_right _ _) (ih (j + 1) (by omega))
theorem uu_le (p : Nat → Nat) {w : Nat} (h : ∀ i, i < w → 1 ≤ p i) (hQ : 1 ≤ Qq p w) {j : Nat} (hj : j ≤ w) : Uu p (Ll p w) j ≤ Nn p w := by
  refine Nat.le_trans (uu_mono p _ (w := w) (w - j) j (by omega)) ?_
  have e := uu_q p (w := w) w (Nat.le_refl _)
  have l := (ll_le p w h).2
  exact Nat.le_of_mul_le_mul_right (by rw [e]; exact Nat.mul_le_mul_left _ l) hQ
theorem den_m {r : Nat → Int64} {p : Nat → Nat} {k w s : Nat} {M : Mem} (h : RowW r p k w) (hs : s < 6) (hr : ∀ i, i < 60 → M.2.1 90 (60 * s + i) = r i) : fMd_below_ M (nI s) (nI w) = some (lN (Ll p w)) := by
  obtain ⟨h1, h0, h2, h3, h4⟩ := h
  have m6 : min k 6 ≤ 6 := Nat.min_le_right _ _
  have L : ∀ d j f, j + d = w → d < f → fMd_below__L5 f M (nI s) (nI w) (lN (Ll p j)) (nI j) = some (lN (Ll p w)) := by
    intro d
    induction d with
    | zero =>
      intro j f hj hf
      obtain ⟨f', rfl⟩ : ∃ f', f = f' + 1 := ⟨f - 1, by omega⟩
      obtain rfl : j = w := by omega
      show fMd_below__L5_F (fMd_below__L5 f') M (nI s) (nI j) (lN (Ll p j)) (nI j) = _
      rw [fMd_below__L5_F, if_pos (Int32.le_refl _)]
    | succ d ih =>
      intro j f hj hf
      obtain ⟨f', rfl⟩ : ∃ f', f = f' + 1 := ⟨f - 1, by omega⟩
      show fMd_below__L5_F (fMd_below__L5 f') M (nI s) (nI w) (lN (Ll p j)) (nI j) = _
      have q1' : ¬ nI w ≤ nI j := fun z => absurd ((nI_leI (by omega) (by omega)).mp z) (by omega)
      obtain ⟨p1, p2, p3⟩ := h3 j (by omega)
      have hp : ∀ i, i < j → 1 ≤ p i ∧ p i ≤ 999 := fun i hi => ⟨(h3 i (by omega)).1, (h3 i (by omega)).2.1⟩
      obtain ⟨l1, l2⟩ := ll_le p j (fun i hi => (hp i hi).1)
      obtain ⟨-, b2, -⟩ := qn_63 p (j := j) (by omega) hp
      have g0 : 0 < Nat.gcd (Ll p j) (p j) := Nat.gcd_pos_of_pos_left _ l1
      have g1 : Nat.gcd (Ll p j) (p j) ≤ p j := Nat.le_of_dvd (by omega) (Nat.gcd_dvd_right _ _)
      have t : (r j).toInt32.toInt64 = lN (p j) := by rw [p3, lN_i, nI_l (by omega)]
      rw [fMd_below__L5_F, if_neg q1', told_n M s j hs (by omega), Option.bind_some, hr j (by omega), t, mgcd (by omega) (by omega), Option.bind_some, dvo_n (by omega) g0 (by omega), Option.bind_some, Option.bind_some, t, pk_lDiv (by omega) g0 (by omega), lN_mul, nI_1]
      exact ih (j + 1) f' (by omega) (by omega)
  rw [fMd_below_, show (0 : Int32) = nI 0 from rfl, show (1 : Int64) = lN (Ll p 0) from rfl, L w 0 FU (by omega) (fu_lt (by omega)), Option.bind_some]
theorem num_m {r : Nat → Int64} {p : Nat → Nat} {k w s : Nat} {M : Mem} (h : RowW r p k w) (hs : s < 6) (hr : ∀ i, i < 60 → M.2.1 90 (60 * s + i) = r i) : fMd_above M (nI s) (nI w) = some (lN (Uu p (Ll p w) w)) := by
  have B := den_m h hs hr
  obtain ⟨h1, h0, h2, h3, h4⟩ := h
  have m6 : min k 6 ≤ 6 := Nat.min_le_right _ _
  have hp : ∀ i, i < w → 1 ≤ p i ∧ p i ≤ 999 := fun i hi => ⟨(h3 i hi).1, (h3 i hi).2.1⟩
  obtain ⟨l1, l2⟩ := ll_le p w (fun i hi => (hp i hi).1)
  obtain ⟨b1, b2, b3⟩ := qn_63 p (j := w) (by omega) hp
  have L : ∀ d j f, j + d = w → d < f → fMd_above_L13 f M (nI s) (nI w) (lN (Ll p w)) (lN (Uu p (Ll p w) j)) (nI j) = some (lN (Uu p (Ll p w) w)) := by
    intro d
    induction d with
    | zero =>
      intro j f hj hf
      obtain ⟨f', rfl⟩ : ∃ f', f = f' + 1 := ⟨f - 1, by omega⟩
      obtain rfl : j = w := by omega
      show fMd_above_L13_F (fMd_above_L13 f') M (nI s) (nI j) (lN (Ll p j)) (lN (Uu p (Ll p j) j)) (nI j) = _
      rw [fMd_above_L13_F, if_pos (Int32.le_refl _)]
    | succ d ih =>
      intro j f hj hf
      obtain ⟨f', rfl⟩ : ∃ f', f = f' + 1 := ⟨f - 1, by omega⟩
      show fMd_above_L13_F (fMd_above_L13 f') M (nI s) (nI w) (lN (Ll p w)) (lN (Uu p (Ll p w) j)) (nI j) = _
      have q1' : ¬ nI w ≤ nI j := fun z => absurd ((nI_leI (by omega) (by omega)).mp z) (by omega)
      obtain ⟨p1, p2, p3⟩ := h3 j (by omega)
      have t : (r j).toInt32.toInt64 = lN (p j) := by rw [p3, lN_i, nI_l (by omega)]
      have l100 : (100 : Int64) = lN 100 := rfl
      rw [fMd_above_L13_F, if_neg q1', told_n M s j hs (by omega), Option.bind_some, hr j (by omega), t, dvo_n (by omega) (by omega) (by omega), Option.bind_some, pk_lDiv (by omega) (by omega) (by omega), l100, lN_mul, lN_add, nI_1]
      exact ih (j + 1) f' (by omega) (by omega)
  rw [fMd_above, B, Option.bind_some, show (0 : Int32) = nI 0 from rfl, show (0 : Int64) = lN (Uu p (Ll p w) 0) from rfl, L w 0 FU (by omega) (fu_lt (by omega)), Option.bind_some]
theorem best_m {r : Nat → Int64} {p : Nat → Nat} {k w s : Nat} {M : Mem} (h : RowW r p k w) (hs : s < 6) (hr : ∀ i, i < 60 → M.2.1 90 (60 * s + i) = r i) : fMd_bets_L77 FU M (nI s) (nI w) (-2) 0 = some (bS p w) := by
  obtain ⟨h1, h0, h2, h3, h4⟩ := h
  have m6 : min k 6 ≤ 6 := Nat.min_le_right _ _
  have L : ∀ d j f, j + d = w → d < f → fMd_bets_L77 f M (nI s) (nI w) (bS p j) (nI j) = some (bS p w) := by
    intro d
    induction d with
    | zero =>
      intro j f hj hf
      obtain ⟨f', rfl⟩ : ∃ f', f = f' + 1 := ⟨f - 1, by omega⟩
      obtain rfl : j = w := by omega
      show fMd_bets_L77_F (fMd_bets_L77 f') M (nI s) (nI j) (bS p j) (nI j) = _
      rw [fMd_bets_L77_F, if_pos (Int32.le_refl _)]
    | succ d ih =>
      intro j f hj hf
      obtain ⟨f', rfl⟩ : ∃ f', f = f' + 1 := ⟨f - 1, by omega⟩
      show fMd_bets_L77_F (fMd_bets_L77 f') M (nI s) (nI w) (bS p j) (nI j) = _
      have q1' : ¬ nI w ≤ nI j := fun z => absurd ((nI_leI (by omega) (by omega)).mp z) (by omega)
      obtain ⟨p1, p2, p3⟩ := h3 j (by omega)
      rw [fMd_bets_L77_F, if_neg q1']
      by_cases z : j = 0
      · have zb : bS p j = -2 := if_pos z
        have e : bS p (j + 1) = nI j := by rw [bS_s, if_pos z, z]
        rw [if_pos zb, nI_1, ← e]
        exact ih (j + 1) f' (by omega) (by omega)
      · have zb : bS p j = nI (bN p j) := if_neg z
        have zl : bN p j < j := bN_l p (by omega)
        have zn : ¬ nI (bN p j) = -2 := m2_ne (by omega)
        obtain ⟨g1, g2, g3⟩ := h3 (bN p j) (by omega)
        rw [zb, if_neg zn, told_n M s j hs (by omega), Option.bind_some, told_n M s (bN p j) hs (by omega), Option.bind_some, hr j (by omega), hr (bN p j) (by omega), p3, g3, lN_i, lN_i, nI_1]
        by_cases y : p j ≤ p (bN p j)
        · have e : bS p (j + 1) = nI (bN p j) := by rw [bS_s, if_neg z, if_pos y]
          rw [if_pos ((nI_leI (by omega) (by omega)).mpr y), ← e]
          exact ih (j + 1) f' (by omega) (by omega)
        · have e : bS p (j + 1) = nI j := by rw [bS_s, if_neg z, if_neg y]
          have y' : ¬ nI (p j) ≤ nI (p (bN p j)) := fun q => y ((nI_leI (by omega) (by omega)).mp q)
          rw [if_neg y', ← e]
          exact ih (j + 1) f' (by omega) (by omega)
  exact L w 0 FU (by omega) (fu_lt (by omega))
theorem bets_fin {p n : Nat} {M M2 : Mem} (hN : IvN p M) (hT : IvT M) (hD : IvD M) (hIm : IvI p M) (hC : IvC p M) (hB : IvB n M) (hS : IvS n M) (hZ : IvZ M) (hL : IvL M) (K : KB M M2) : Inv M2 := by
  have K' : Keep [33] [] M (M2.1, M.2) := ⟨fun a ha _ => K.1 a (by simpa using ha), fun i _ => congrFun (K.1 66 (by omega)) i, rfl⟩
  have a1 := hN.kp K' ⟨rfl, rfl, rfl, rfl, rfl, rfl, rfl, rfl, rfl, rfl, rfl, rfl, rfl, rfl, rfl, rfl⟩
  have a2 := hT.kp K' ⟨rfl, rfl, rfl, rfl⟩
  have a3 := hD.kp K' ⟨rfl, rfl⟩
  have a4 := hIm.kp K' ⟨rfl, rfl, rfl, rfl, rfl, rfl, rfl, rfl, rfl, rfl, rfl⟩
  have a5 := hC.kp K' ⟨rfl, rfl, rfl, rfl, rfl, rfl, rfl, rfl, rfl⟩
  have a6 := hB.kp K' ⟨rfl, rfl, rfl, rfl, rfl, rfl, rfl, rfl⟩
  have a7 := hZ.kp K' ⟨rfl, rfl, rfl, rfl⟩
  have a8 := hL.kp K' ⟨rfl, rfl, rfl, rfl, rfl, rfl, rfl, rfl, rfl⟩
  refine ⟨p, n, a1.congr rfl rfl rfl rfl rfl rfl rfl rfl rfl rfl rfl rfl rfl rfl rfl rfl, a2.congr rfl rfl rfl rfl, a3.congr rfl rfl, a4.congr rfl rfl rfl rfl rfl rfl rfl rfl rfl rfl rfl, a5.congr rfl rfl rfl rfl rfl rfl rfl rfl rfl, a6.congr rfl rfl rfl rfl rfl rfl rfl rfl, fun s hs => ?_, a7.congr rfl rfl rfl rfl, a8.congr K.2.2 rfl rfl rfl rfl rfl rfl rfl rfl rfl⟩
  rw [K.1 24 (by omega), K.1 25 (by omega), K.1 88 (by omega), K.1 89 (by omega), K.2.1 90 (by omega), K.2.1 (27 + s) (by omega)]
  exact hS s hs
/-- what both reckon of a row of shorts -/
theorem bets_both {p n : Nat} {M : Mem} (hN : IvN p M) (hT : IvT M) (hD : IvD M) (hIm : IvI p M) (hC : IvC p M) (hB : IvB n M) (hS : IvS n M) (hZ : IvZ M) (hL : IvL M) {sh k : Nat} (hsh : sh < 6) (hk : k ≤ 60) (r4 : M.1 89 sh = nI k) (r5 : ∀ i, i < 60 → M.2.1 90 (60 * sh + i) = M.2.1 (27 + sh) i ∧ okEl 1 (M.2.1 (27 + sh) i)) : ∃ (M2 : Mem) (w A B U L : Nat) (b : Int32), w ≤ 6 ∧ fBets_read M (27 + sh) (nI k) = some M2 ∧ M2.1 88 = M.1 88 ∧ Inv M2 ∧ M2.2.1 33 0 = lN A ∧ M2.2.1 33 1 = lN B ∧ M2.1 33 2 = b ∧ (b = -2 ↔ w = 0) ∧ fMd_waysOf M2 (nI sh) = some (nI w) ∧ fMd_above M2 (nI sh) (nI w) = some (lN U) ∧ fMd_below_ M2 (nI sh) (nI w) = some (lN L) ∧ fMd_bets_L77 FU M2 (nI sh) (nI w) (-2) 0 = some b ∧ U < 2 ^ 63 ∧ L < 2 ^ 63 ∧ 0 < L ∧ A = U / Nat.gcd U L ∧ B = L / Nat.gcd U L := by
  obtain ⟨q, w, R⟩ := row_w (M.2.1 (27 + sh)) hk (fun i hi => (r5 i hi).2)
  obtain ⟨M2, e, K, A1, A2, A3⟩ := read_c (M := M) R (a := 27 + sh) (by omega) (fun _ _ => rfl)
  have h89 : M2.1 89 sh = nI k := by rw [K.1 89 (by omega)]; exact r4
  have h90 : ∀ i, i < 60 → M2.2.1 90 (60 * sh + i) = M.2.1 (27 + sh) i := fun i hi => by rw [K.2.1 90 (by omega)]; exact (r5 i hi).1
  have w6 : w ≤ 6 := Nat.le_trans R.1 (Nat.min_le_right _ _)
  have hp : ∀ i, i < w → 1 ≤ q i ∧ q i ≤ 999 := fun i hi => ⟨(R.2.2.2.1 i hi).1, (R.2.2.2.1 i hi).2.1⟩
  obtain ⟨b1, b2, b3⟩ := qn_63 q w6 hp
  obtain ⟨l1, l2⟩ := ll_le q w (fun i hi => (hp i hi).1)
  have u1 := uu_le q (fun i hi => (hp i hi).1) b1 (Nat.le_refl w)
  obtain ⟨f1, f2⟩ := fr_eq (uu_q q w (Nat.le_refl w)) b1 l1
  refine ⟨M2, w, _, _, Uu q (Ll q w) w, Ll q w, bS q w, w6, e, K.1 88 (by omega), bets_fin hN hT hD hIm hC hB hS hZ hL K, A1, A2, A3, ?_, ways_m R hsh h89 h90, num_m R hsh h90, den_m R hsh h90, best_m R hsh h90, by omega, by omega, by omega, f1.symm, f2.symm⟩
  constructor
  · intro z
    apply Classical.byContradiction
    intro y
    rw [bS, if_neg y] at z
    have := bN_l q (j := w) (by omega)
    exact m2_ne (by omega) z
  · intro z
    rw [bS, if_pos z]
theorem s_bets (x1 x2 : Int32) : Sim (fun M => fSh_bets M x1 x2) (fun M => (fMd_bets M x1 x2).map fun r => (r, M)) := by
  rintro M hI
  have o1 : ¬ (1 : Int32) = 0 := by decide
  rcases shelf_cases x1 with ⟨h1, h2⟩ | ⟨sh, hsh, rfl, h1, h2⟩
  · exact ⟨-1, M, M, by simp [fSh_bets, h1], by simp [fMd_bets, h2], hI⟩
  by_cases hx : x2 < 0 ∨ ¬ x2 ≤ 1
  · have e2 : fMd_within x2 0 1 = 0 := by unfold fMd_within; grind
    refine ⟨-1, M, M, ?_, by simp [fMd_bets, h2, e2], hI⟩
    show fSh_bets M (nI sh) x2 = _
    rw [fSh_bets, h1, if_neg o1]
    by_cases z : x2 < 0
    · rw [if_pos z]
    · rw [if_neg z, if_neg (hx.resolve_left z)]
  obtain ⟨y1, y2⟩ : ¬ x2 < 0 ∧ x2 ≤ 1 := by grind
  have e2 : ¬ fMd_within x2 0 1 = 0 := by unfold fMd_within; grind
  have hI0 := hI
  obtain ⟨p, n, hN, hT, hD, hIm, hC, hB, hS, hZ, hL⟩ := hI
  rcases shorts_cases hB.1 hS hsh with ⟨v, v0, v1, r1, r2⟩ | ⟨r1, r2, k, hk, r3, r4, r5⟩
  · refine ⟨v, M, M, ?_, ?_, hI0⟩
    · show fSh_bets M (nI sh) x2 = _
      rw [fSh_bets, h1, if_neg o1, if_neg y1, if_pos y2, r1, Option.bind_some, if_neg v0]
    · show (fMd_bets M (nI sh) x2).map _ = _
      rw [fMd_bets, h2, if_neg o1, if_pos e2, r2 M rfl, Option.bind_some, if_neg v1]
      rfl
  obtain ⟨M2, w, A, B, U, L, b, w6, c1, c2, c3, c4, c5, c6, c7, c8, c9, c10, c11, c12, c13, c14, c15, c16⟩ := bets_both hN hT hD hIm hC hB hS hZ hL hsh hk r4 r5
  have C : fSh_bets M (nI sh) x2 = if ¬ x2 = 1 then if (fBets_isSure M2) = 0 then some (0, M2) else some (1, M2) else some (M2.1 33 2, M2) := by
    rw [fSh_bets, h1, if_neg o1, if_neg y1, if_pos y2, r1, Option.bind_some, if_pos rfl, rdR_n hsh, Option.bind_some, rdI_n hsh (by omega), Option.bind_some, r3, c1, Option.bind_some]
  have G : fMd_bets M2 (nI sh) x2 = if ¬ x2 = 0 then some b else if nI w ≤ 0 then some 0 else if 0 ≤ (lg_cmp (lN U) (lN L)) then some 0 else some 1 := by
    rw [fMd_bets, h2, if_neg o1, if_pos e2, r2 M2 c2, Option.bind_some, if_pos (by decide), c8, Option.bind_some, c11, c9, c10, Option.bind_some, Option.bind_some, Option.bind_some]
  by_cases z : x2 = 1
  · have z0 : ¬ x2 = 0 := by rw [z]; decide
    refine ⟨b, M2, M2, ?_, ?_, c3⟩
    · show fSh_bets M (nI sh) x2 = _
      rw [C, if_neg (fun q => q z), c6]
    · show (fMd_bets M2 (nI sh) x2).map _ = _
      rw [G, if_pos z0]
      rfl
  have z0 : x2 = 0 := by grind
  have g0 : 0 < Nat.gcd U L := Nat.gcd_pos_of_pos_right _ c14
  have sure : fBets_isSure M2 = if w = 0 then 0 else if L ≤ U then 0 else 1 := by
    unfold fBets_isSure
    rw [c6, c4, c5]
    by_cases w0 : w = 0
    · rw [if_pos w0, if_pos (c7.mpr w0)]
    · have a1 : A ≤ U := by rw [c15]; exact Nat.div_le_self _ _
      have a2 : B ≤ L := by rw [c16]; exact Nat.div_le_self _ _
      have a3 : B ≤ A ↔ L ≤ U := by
        have d1 : U / Nat.gcd U L * Nat.gcd U L = U := Nat.div_mul_cancel (Nat.gcd_dvd_left U L)
        have d2 : L / Nat.gcd U L * Nat.gcd U L = L := Nat.div_mul_cancel (Nat.gcd_dvd_right U L)
        rw [← c15] at d1
        rw [← c16] at d2
        constructor
        · intro h
          have := Nat.mul_le_mul_right (Nat.gcd U L) h
          omega
        · intro h
          exact Nat.le_of_mul_le_mul_right (by omega) g0
      rw [if_neg w0, if_neg (fun q => w0 (c7.mp q))]
      by_cases y : L ≤ U
      · rw [if_pos y, if_pos ((lg_cmp_ge _ _).mpr ((pk_lLE (by omega) (by omega)).mpr (a3.mpr y)))]
      · rw [if_neg y, if_neg (fun q => y (a3.mp ((pk_lLE (by omega) (by omega)).mp ((lg_cmp_ge _ _).mp q))))]
  have G2 : fMd_bets M2 (nI sh) x2 = some (fBets_isSure M2) := by
    rw [G, if_neg (fun q => q z0), sure]
    by_cases w0 : w = 0
    · rw [if_pos w0, if_pos ((leR (b := 0) 0 rfl (by omega) (by omega)).mpr (by omega))]
    · rw [if_neg w0, if_neg (fun q => w0 (by have := (leR (b := 0) 0 rfl (by omega) (by omega)).mp q; omega))]
      by_cases y : L ≤ U
      · rw [if_pos y, if_pos ((lg_cmp_ge _ _).mpr ((pk_lLE (by omega) (by omega)).mpr y))]
      · rw [if_neg y, if_neg (fun q => y ((pk_lLE (by omega) (by omega)).mp ((lg_cmp_ge _ _).mp q)))]
  refine ⟨fBets_isSure M2, M2, M2, ?_, ?_, c3⟩
  · show fSh_bets M (nI sh) x2 = _
    rw [C, if_pos z]
    have s01 : fBets_isSure M2 = 0 ∨ fBets_isSure M2 = 1 := by rw [sure]; split; · exact Or.inl rfl
                                                               split; · exact Or.inl rfl
                                                               exact Or.inr rfl
    rcases s01 with s | s
    · rw [s, if_pos rfl]
    · rw [s, if_neg o1]
  · show (fMd_bets M2 (nI sh) x2).map _ = _
    rw [G2]
    rfl
theorem s_margin (x1 x2 : Int32) : Sim (fun M => fSh_margin M x1 x2) (fun M => (fMd_margin M x1 x2).map fun r => (r, M)) := by
  rintro M hI
  have o1 : ¬ (1 : Int32) = 0 := by decide
  rcases shelf_cases x1 with ⟨h1, h2⟩ | ⟨sh, hsh, rfl, h1, h2⟩
  · exact ⟨-9223372036854775808, M, M, by simp [fSh_margin, h1], by simp [fMd_margin, h2], hI⟩
  by_cases hx : x2 < 0 ∨ 1 < x2
  · have e2 : fMd_within x2 0 1 = 0 := by unfold fMd_within; grind
    refine ⟨-9223372036854775808, M, M, ?_, by simp [fMd_margin, h2, e2], hI⟩
    show fSh_margin M (nI sh) x2 = _
    rw [fSh_margin, h1, if_neg o1]
    by_cases z : x2 < 0
    · rw [if_pos z]
    · rw [if_neg z, if_pos (hx.resolve_left z)]
  obtain ⟨y1, y2⟩ : ¬ x2 < 0 ∧ ¬ 1 < x2 := by grind
  have e2 : ¬ fMd_within x2 0 1 = 0 := by unfold fMd_within; grind
  have hI0 := hI
  obtain ⟨p, n, hN, hT, hD, hIm, hC, hB, hS, hZ, hL⟩ := hI
  have row1 : fShelves_isRowOf M (nI sh) 1 = if M.1 24 sh = 1 then some 1 else some 0 := by
    rw [fShelves_isRowOf, rdI_n hsh (by omega), Option.bind_some]
    by_cases q : M.1 24 sh = 1
    · rw [if_neg (fun z => z q), if_pos q]
    · rw [if_pos q, if_neg q]
  have ref : fShelves_refusal M (nI sh) 1 = some 0 ↔ M.1 24 sh = 1 := by
    have e : fShelves_refusal M (nI sh) 1 = if M.1 24 sh = -1 then some (-11) else if M.1 24 sh = 1 then some 0 else some (-12) := by
      simp only [fShelves_refusal, fShelves_isEmpty, fShelves_isRowOf, rdI_n hsh (by omega : (6 : Nat) ≤ 1000), Option.bind_some]
      by_cases a : M.1 24 sh = -1
      · simp [a]
      · by_cases b : M.1 24 sh = 1 <;> simp [a, b]
    rw [e]
    by_cases a : M.1 24 sh = -1
    · rw [if_pos a, a]
      decide
    · rw [if_neg a]
      by_cases b : M.1 24 sh = 1
      · rw [if_pos b]; exact ⟨fun _ => b, fun _ => rfl⟩
      · rw [if_neg b]; exact ⟨fun q => absurd q (by decide), fun q => absurd q b⟩
  rcases shorts_cases hB.1 hS hsh with ⟨v, v0, v1, r1, r2⟩ | ⟨r1, r2, k, hk, r3, r4, r5⟩
  · have n1 : ¬ M.1 24 sh = 1 := fun q => v0 (by
      have := ref.mpr q
      rw [r1] at this
      exact Option.some.inj this)
    refine ⟨-9223372036854775808, M, M, ?_, ?_, hI0⟩
    · show fSh_margin M (nI sh) x2 = _
      rw [fSh_margin, h1, if_neg o1, if_neg y1, if_neg y2, row1, if_neg n1, Option.bind_some, if_neg (fun z => z rfl)]
    · show (fMd_margin M (nI sh) x2).map _ = _
      rw [fMd_margin, h2, if_neg o1, if_neg e2, r2 M rfl, Option.bind_some, if_neg v1]
      rfl
  obtain ⟨M2, w, A, B, U, L, b, w6, c1, c2, c3, c4, c5, c6, c7, c8, c9, c10, c11, c12, c13, c14, c15, c16⟩ := bets_both hN hT hD hIm hC hB hS hZ hL hsh hk r4 r5
  have g0 : 0 < Nat.gcd U L := Nat.gcd_pos_of_pos_right _ c14
  have g1 : Nat.gcd U L ≤ L := Nat.le_of_dvd c14 (Nat.gcd_dvd_right U L)
  have C : fSh_margin M (nI sh) x2 = if ¬ x2 = 0 then some (M2.2.1 33 1, M2) else some (M2.2.1 33 0, M2) := by
    rw [fSh_margin, h1, if_neg o1, if_neg y1, if_neg y2, row1, if_pos (ref.mp r1), Option.bind_some, if_pos o1, rdR_n hsh, Option.bind_some, rdI_n hsh (by omega), Option.bind_some, r3, c1, Option.bind_some]
  have G : fMd_margin M2 (nI sh) x2 = if ¬ x2 = 0 then some (lN B) else some (lN A) := by
    rw [fMd_margin, h2, if_neg o1, if_neg e2, r2 M2 c2, Option.bind_some, if_pos (by decide), c8, Option.bind_some, c9, Option.bind_some, c10, Option.bind_some, mgcd c12 c13, Option.bind_some, Option.bind_some, dvo_n c13 g0 (by omega), dvo_n c12 g0 (by omega), Option.bind_some, Option.bind_some, pk_lDiv c13 g0 (by omega), pk_lDiv c12 g0 (by omega), c15, c16]
  by_cases z : x2 = 0
  · refine ⟨lN A, M2, M2, ?_, ?_, c3⟩
    · show fSh_margin M (nI sh) x2 = _
      rw [C, if_neg (fun q => q z), c4]
    · show (fMd_margin M2 (nI sh) x2).map _ = _
      rw [G, if_neg (fun q => q z)]
      rfl
  · refine ⟨lN B, M2, M2, ?_, ?_, c3⟩
    · show fSh_margin M (nI sh) x2 = _
      rw [C, if_pos z, c5]
    · show (fMd_margin M2 (nI sh) x2).map _ = _
      rw [G, if_pos z]
      rfl
