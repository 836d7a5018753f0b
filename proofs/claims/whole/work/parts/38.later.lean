/-! runs, later, all, rich -/
def pers (p : Nat) (x : Int32) : Int32 := if x < 0 then 0 else if nI p ≤ x then 0 else 1
theorem pers_c {W : Wd} {M : Mem} (h : CW W M) (x : Int32) : fWorld_isPerson M x = pers W.1 x := by
  unfold fWorld_isPerson pers
  rw [h.1]
theorem pers_m {W : Wd} (hW : okW W) {M : Mem} (h : MW W M) (x : Int32) : fMd_isOne M x = pers W.1 x := by
  unfold fMd_isOne fMd_within pers
  rw [h.1]
  have := low_n1 (n := W.1) (by have := hW.1; omega) x
  simp only [this]
theorem pers_cases (p : Nat) (hp : p ≤ 8) (x : Int32) : pers p x = 0 ∨ ∃ q : Nat, q < p ∧ x = nI q ∧ pers p x = 1 := by
  by_cases h : x < 0 ∨ nI p ≤ x
  · left
    unfold pers
    by_cases q : x < 0
    · rw [if_pos q]
    · rw [if_neg q, if_pos (h.resolve_left q)]
  · right
    have h1 : ¬ x < 0 := fun z => h (Or.inl z)
    have h2 : ¬ nI p ≤ x := fun z => h (Or.inr z)
    obtain ⟨c, hc, rfl⟩ := in_n (x := x) p (by omega) h1 (Int32.not_le.mp h2)
    refine ⟨c, hc, rfl, ?_⟩
    unfold pers
    rw [if_neg h1, if_neg h2]
theorem time_cases (x : Int32) : (fSh_isThinkable x = 0 ∧ fMd_isTime x = 0) ∨ ∃ n : Nat, n ≤ 48 ∧ x = nI n ∧ fSh_isThinkable x = 1 ∧ fMd_isTime x = 1 := by
  by_cases h : x < 0 ∨ 48 < x
  · left
    unfold fSh_isThinkable fMd_isTime fMd_within
    grind
  · right
    obtain ⟨c, hc, rfl⟩ := in_lit (x := x) (b := 49) 49 (by omega) rfl (by grind) (by grind)
    refine ⟨c, by omega, rfl, ?_⟩
    unfold fSh_isThinkable fMd_isTime fMd_within
    grind
/-- what: 0 or 1 -/
theorem two_cases (x : Int32) : ((x < 0 ∨ ¬ x ≤ 1) ∧ fMd_within x 0 1 = 0) ∨ (x = 0 ∧ fMd_within x 0 1 = 1) ∨ (x = 1 ∧ fMd_within x 0 1 = 1) := by
  unfold fMd_within
  grind
theorem ThkC.const {α : Type} {f : Mem → Option (α × Mem)} {W : Wd} {s : St} {r : α} (h : ∀ M, CW W M → f M = some (r, M)) : ThkC f W s r := fun M hC _ hz => ⟨M, h M hC, Kp.rf _ _, hz⟩
theorem ThkM.const {α : Type} {g : Mem → Option (α × Mem)} {W : Wd} {s : St} {r : α} (h : ∀ M, MW W M → g M = some (r, M)) : ThkM g W s r := fun M hC _ => ⟨M, h M hC, Rest.rf M⟩
theorem sim_t {α : Type} {f g : Mem → Option (α × Mem)} (h : ∀ (W : Wd) (s : St), okW W → okS W.1 s → ∃ r, ThkC f W s r ∧ ThkM g W s r) : Sim f g := by
  intro M hI
  have hI0 := hI
  obtain ⟨p, n, hN, hT, hD, hIm, hC, hB, hS, hZ, hL⟩ := hI
  obtain ⟨L, w1, w2, w3, w4, w5, w6⟩ := inv_w hN hL
  obtain ⟨r, h1, h2⟩ := h (nowW p L M) (nowS M) w1 w4
  exact sim_think hI0 w1 w2 w3 w5 w6 h1 h2
theorem s_runs (x : Int32) : Sim (fun M => fSh_runs M x) (fun M => fMd_runs M x) := sim_t fun W s hW hs => by
  rcases cell_cases x with ⟨h1, h2⟩ | ⟨c, hc, rfl, h1, h2⟩
  · exact ⟨-1, .const fun M _ => by simp [fSh_runs, h1], .const fun M _ => by simp [fMd_runs, h2]⟩
  have o1 : ¬ (1 : Int32) = 0 := by decide
  by_cases sk : low4 W.2.1 c = c
  · refine ⟨-2, .const fun M hC => ?_, .const fun M hC => ?_⟩
    · simp [fSh_runs, h1, sink_c hC hc, sk]
    · have n1 : ¬ (0 : Int32) ≤ -1 := by decide
      simp [fMd_runs, h2, below_m M W.2.1 hC.2.1 c hc, blw, sk, n1]
  · have hlow := low4_lt (h := W.2.1) hc
    have n1 : (0 : Int32) ≤ nI (low4 W.2.1 c) := nI_pos' (by omega)
    refine ⟨ofn W s c, fun M hC hV hz => ?_, fun M hC hV => ?_⟩
    · obtain ⟨M1, e, K⟩ := out_c hW hs hC hV hc
      refine ⟨M1, by simp [fSh_runs, h1, sink_c hC hc, sk, e], K.mono (fun a i h => Or.inr (Or.inr h)), fun i hi => ?_⟩
      rw [K.1 47 i (by unfold PG; omega), K.1 53 i (by unfold PG; omega), K.1 59 i (by unfold PG; omega)]
      exact hz i hi
    · obtain ⟨M1, e, K⟩ := runsOut_m hW hC hV hc sk
      refine ⟨M1, by simp [fMd_runs, h2, below_m M W.2.1 hC.2.1 c hc, blw, sk, n1, e], K.mono (fun a i h => by unfold PO at h; unfold PTm; omega), fun c' _ => ?_, fun i _ => ?_, ?_⟩
      · rw [K.1 68 c' (by unfold PO; omega), K.1 69 c' (by unfold PO; omega)]; exact ⟨rfl, rfl⟩
      · rw [K.1 70 i (by unfold PO; omega)]
      · rw [K.1 66 5 (by unfold PO; omega)]
theorem behind_c {W : Wd} (hW : okW W) {s : St} (hs : okS W.1 s) {M0 M : Mem} (hK : Kp PTc M0 M) (hC : CW W M) (hV : VS W.1 36 M s) (hz : Zr M) (n : Nat) (hn : n ≤ 1000) : ∃ M1, fThought_behind M (nI n) = some M1 ∧ ThC W 42 M0 (stN W n s) M1 := by
  obtain ⟨M1, e1, t1⟩ := begin_c hW hK hC hV hz
  obtain ⟨M2, e2, t2⟩ := t1.spend hW hs n hn
  exact ⟨M2, by rw [fThought_behind, e1, Option.bind_some, e2, Option.bind_some], t2⟩
theorem s_later (x y z : Int32) : Sim (fun M => fSh_later M x y z) (fun M => fMd_later M x y z) := sim_t fun W s hW hs => by
  have o1 : ¬ (1 : Int32) = 0 := by decide
  rcases time_cases x with ⟨h1, h2⟩ | ⟨n, hn, rfl, h1, h2⟩
  · exact ⟨-1, .const fun M _ => by simp [fSh_later, h1], .const fun M _ => by simp [fMd_later, h2]⟩
  rcases two_cases z with ⟨hz, w⟩ | ⟨rfl, w⟩ | ⟨rfl, w⟩
  · refine ⟨-1, .const fun M _ => ?_, .const fun M _ => by simp [fMd_later, h2, w]⟩
    simp only [fSh_later, h1, o1, if_false]
    by_cases q : z < 0
    · simp [q]
    · simp [q, hz.resolve_left q]
  · rcases cell_cases y with ⟨g1, g2⟩ | ⟨c, hc, rfl, g1, g2⟩
    · exact ⟨-1, .const fun M _ => by simp [fSh_later, h1, g1], .const fun M _ => by simp [fMd_later, h2, w, g2]⟩
    · refine ⟨(stN W n s).1 c, fun M hC hV hz => ?_, fun M hC hV => ?_⟩
      · obtain ⟨M1, e, k1, k2, k3, k4⟩ := behind_c hW hs (Kp.rf _ M) hC hV hz n (by omega)
        refine ⟨M1, ?_, k1, k4⟩
        simp only [fSh_later, h1, g1, o1, if_false, not_true_eq_false, e, Option.bind_some, rdI_n hc (by omega : 36 ≤ 1000), k3.1 c hc]
        rfl
      · obtain ⟨M1, e1, t1, -⟩ := keep_m hW hC hV (Rest.rf M) 92 (by omega)
        obtain ⟨M2, e2, t2⟩ := t1.goes hW (by omega) hs n (by omega)
        obtain ⟨M3, e3, r3, -⟩ := t2.lays (by omega)
        refine ⟨M3, ?_, r3⟩
        simp only [fMd_later, h2, w, g2, o1, if_false, not_true_eq_false, fMd_later_J40, e1, e2, Option.bind_some, rdI_n hc (by omega : 36 ≤ 1000), t2.2.2.1.1 c hc, e3]
  · rcases pers_cases W.1 hW.1 y with g | ⟨q, hq, rfl, g⟩
    · exact ⟨-1, .const fun M hC => by simp [fSh_later, h1, pers_c hC, g], .const fun M hC => by simp [fMd_later, h2, w, pers_m hW hC, g]⟩
    · have q8 : q < 8 := by have := hW.1; omega
      refine ⟨(stN W n s).2.2.2.1 q, fun M hC hV hz => ?_, fun M hC hV => ?_⟩
      · obtain ⟨M1, e, k1, k2, k3, k4⟩ := behind_c hW hs (Kp.rf _ M) hC hV hz n (by omega)
        refine ⟨M1, ?_, k1, k4⟩
        simp only [fSh_later, h1, pers_c hC, g, o1, if_false, not_false_eq_true, if_true, e, Option.bind_some, rdI_n q8 (by omega : 8 ≤ 1000), k3.2.2.2.1 q hq]
        rfl
      · obtain ⟨M1, e1, t1, -⟩ := keep_m hW hC hV (Rest.rf M) 92 (by omega)
        obtain ⟨M2, e2, t2⟩ := t1.goes hW (by omega) hs n (by omega)
        obtain ⟨M3, e3, r3, -⟩ := t2.lays (by omega)
        refine ⟨M3, ?_, r3⟩
        simp only [fMd_later, h2, w, pers_m hW hC, g, o1, if_false, not_false_eq_true, if_true, fMd_later_J40, e1, e2, Option.bind_some, has_m t2 hW.1 hq, e3]
def sumL (f : Nat → Int32) : Nat → Int32
  | 0 => 0
  | k + 1 => sumL f k + f k
def mst (f : Nat → Int32) : Nat → Nat
  | 0 => 0
  | k + 1 => if f (k + 1) ≤ f (mst f k) then mst f k else k + 1
theorem mst_le (f : Nat → Int32) : ∀ k, mst f k ≤ k := by
  intro k
  induction k with
  | zero => exact Nat.le_refl _
  | succ k ih =>
    rw [mst]
    split
    · omega
    · omega
theorem whole_c {p b : Nat} {M : Mem} {s : St} (h : VS p b M s) : fStreet_wholeLuck M b = some (sumL s.1 36) := by
  obtain ⟨r, e, hr⟩ := loop0 (σ := Int32 × Int32) (fun n t => fStreet_wholeLuck_L4 n M b t.1 t.2) (fun i t => t = (sumL s.1 i, nI i)) (fun r => r = sumL s.1 36) 36 (fu_lt (by omega)) (0, 0) rfl
    (fun n i t hi hP => by
      subst hP
      right
      refine ⟨(sumL s.1 (i + 1), nI (i + 1)), rfl, ?_⟩
      show fStreet_wholeLuck_L4_F (fStreet_wholeLuck_L4 n) M b _ _ = _
      simp only [fStreet_wholeLuck_L4_F, nI_lt36 hi, if_false, rdI_n hi (by omega : 36 ≤ 1000), Option.bind_some, h.1 i hi, nI_1, sumL])
    (fun n t hP => by
      subst hP
      exact ⟨_, rfl, rfl⟩)
  subst hr
  have e' : fStreet_wholeLuck_L4 FU M b 0 0 = some (sumL s.1 36) := e
  rw [fStreet_wholeLuck, e', Option.bind_some]
theorem whole_m {p : Nat} {M : Mem} {s : St} (h : VM p M s) : fMd_allLuck M = some (sumL s.1 36) := by
  obtain ⟨r, e, hr⟩ := loop0 (σ := Int32 × Int32) (fun n t => fMd_allLuck_L4 n M t.1 t.2) (fun i t => t = (sumL s.1 i, nI i)) (fun r => r = sumL s.1 36) 36 (fu_lt (by omega)) (0, 0) rfl
    (fun n i t hi hP => by
      subst hP
      right
      refine ⟨(sumL s.1 (i + 1), nI (i + 1)), rfl, ?_⟩
      show fMd_allLuck_L4_F (fMd_allLuck_L4 n) M _ _ = _
      simp only [fMd_allLuck_L4_F, nI_lt36 hi, if_false, rdI_n hi (by omega : 36 ≤ 1000), Option.bind_some, h.1 i hi, nI_1, sumL])
    (fun n t hP => by
      subst hP
      exact ⟨_, rfl, rfl⟩)
  subst hr
  have e' : fMd_allLuck_L4 FU M 0 0 = some (sumL s.1 36) := e
  rw [fMd_allLuck, e', Option.bind_some]
theorem lucky_c {p b : Nat} {M : Mem} {s : St} (h : VS p b M s) : fStreet_luckiest M b = some (nI (mst s.1 35)) := by
  obtain ⟨r, e, hr⟩ := loop0 (σ := Int32 × Int32) (fun n t => fStreet_luckiest_L4 n M b t.1 t.2) (fun i t => t = (nI (mst s.1 i), nI (i + 1))) (fun r => r = nI (mst s.1 35)) 35 (fu_lt (by omega)) (0, 1) rfl
    (fun n i t hi hP => by
      subst hP
      right
      refine ⟨(nI (mst s.1 (i + 1)), nI (i + 1 + 1)), rfl, ?_⟩
      show fStreet_luckiest_L4_F (fStreet_luckiest_L4 n) M b _ _ = _
      have hm := mst_le s.1 i
      have h1 : i + 1 < 36 := by omega
      have h2 : mst s.1 i < 36 := by omega
      simp only [fStreet_luckiest_L4_F, nI_lt36 h1, if_false, rdI_n h1 (by omega : 36 ≤ 1000), rdI_n h2 (by omega : 36 ≤ 1000), Option.bind_some, h.1 _ h1, h.1 _ h2, nI_1, mst]
      by_cases q : s.1 (i + 1) ≤ s.1 (mst s.1 i) <;> simp [q])
    (fun n t hP => by
      subst hP
      exact ⟨_, rfl, rfl⟩)
  subst hr
  have e' : fStreet_luckiest_L4 FU M b 0 1 = some (nI (mst s.1 35)) := e
  rw [fStreet_luckiest, e', Option.bind_some]
theorem lucky_m {p : Nat} {M : Mem} {s : St} (h : VM p M s) : fMd_luckiest M = some (nI (mst s.1 35)) := by
  obtain ⟨r, e, hr⟩ := loop0 (σ := Int32 × Int32) (fun n t => fMd_luckiest_L4 n M t.1 t.2) (fun i t => t = (nI (mst s.1 i), nI (i + 1))) (fun r => r = nI (mst s.1 35)) 35 (fu_lt (by omega)) (0, 1) rfl
    (fun n i t hi hP => by
      subst hP
      right
      refine ⟨(nI (mst s.1 (i + 1)), nI (i + 1 + 1)), rfl, ?_⟩
      show fMd_luckiest_L4_F (fMd_luckiest_L4 n) M _ _ = _
      have hm := mst_le s.1 i
      have h1 : i + 1 < 36 := by omega
      have h2 : mst s.1 i < 36 := by omega
      simp only [fMd_luckiest_L4_F, nI_lt36 h1, if_false, rdI_n h1 (by omega : 36 ≤ 1000), rdI_n h2 (by omega : 36 ≤ 1000), Option.bind_some, h.1 _ h1, h.1 _ h2, nI_1, mst]
      by_cases q : s.1 (i + 1) ≤ s.1 (mst s.1 i) <;> simp [q])
    (fun n t hP => by
      subst hP
      exact ⟨_, rfl, rfl⟩)
  subst hr
  have e' : fMd_luckiest_L4 FU M 0 1 = some (nI (mst s.1 35)) := e
  rw [fMd_luckiest, e', Option.bind_some]
theorem s_all (x z : Int32) : Sim (fun M => fSh_all M x z) (fun M => fMd_all M x z) := sim_t fun W s hW hs => by
  have o1 : ¬ (1 : Int32) = 0 := by decide
  rcases time_cases x with ⟨h1, h2⟩ | ⟨n, hn, rfl, h1, h2⟩
  · exact ⟨-1, .const fun M _ => by simp [fSh_all, h1], .const fun M _ => by simp [fMd_all, h2]⟩
  rcases two_cases z with ⟨hz, w⟩ | ⟨rfl, w⟩ | ⟨rfl, w⟩
  · refine ⟨-1, .const fun M _ => ?_, .const fun M _ => by simp [fMd_all, h2, w]⟩
    simp only [fSh_all, h1, o1, if_false]
    by_cases q : z < 0
    · simp [q]
    · simp [q, hz.resolve_left q]
  · refine ⟨sumL (stN W n s).1 36, fun M hC hV hz => ?_, fun M hC hV => ?_⟩
    · obtain ⟨M1, e, k1, k2, k3, k4⟩ := behind_c hW hs (Kp.rf _ M) hC hV hz n (by omega)
      refine ⟨M1, ?_, k1, k4⟩
      simp only [fSh_all, h1, o1, if_false, not_true_eq_false, e, Option.bind_some, whole_c k3]
      rfl
    · obtain ⟨M1, e1, t1, -⟩ := keep_m hW hC hV (Rest.rf M) 92 (by omega)
      obtain ⟨M2, e2, t2⟩ := t1.goes hW (by omega) hs n (by omega)
      obtain ⟨M3, e3, r3, -⟩ := t2.lays (by omega)
      refine ⟨M3, ?_, r3⟩
      simp only [fMd_all, h2, w, o1, if_false, not_false_eq_true, if_true, not_true_eq_false, e1, e2, Option.bind_some, whole_m t2.2.2.1, e3]
  · refine ⟨nI (mst (stN W n s).1 35), fun M hC hV hz => ?_, fun M hC hV => ?_⟩
    · obtain ⟨M1, e, k1, k2, k3, k4⟩ := behind_c hW hs (Kp.rf _ M) hC hV hz n (by omega)
      refine ⟨M1, ?_, k1, k4⟩
      simp only [fSh_all, h1, o1, if_false, not_false_eq_true, if_true, e, Option.bind_some, lucky_c k3]
      rfl
    · obtain ⟨M1, e1, t1, -⟩ := keep_m hW hC hV (Rest.rf M) 92 (by omega)
      obtain ⟨M2, e2, t2⟩ := t1.goes hW (by omega) hs n (by omega)
      obtain ⟨M3, e3, r3, -⟩ := t2.lays (by omega)
      refine ⟨M3, ?_, r3⟩
      simp only [fMd_all, h2, w, o1, if_false, not_false_eq_true, if_true, e1, e2, Option.bind_some, lucky_m t2.2.2.1, e3]
