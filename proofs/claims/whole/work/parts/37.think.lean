/-! THOUGHT: what stands now, as a world and a state -/
def nowS (M : Mem) : St := (M.1 37, M.1 38, M.1 39, M.1 40, M.1 36 4)
def nowW (p : Nat) (L : Lines) (M : Mem) : Wd := (p, M.1 3, M.1 5, M.1 6, L)
theorem inv_w {p : Nat} {M : Mem} (hN : IvN p M) (hL : IvL M) : ∃ L, okW (nowW p L M) ∧ CW (nowW p L M) M ∧ MW (nowW p L M) M ∧ okS p (nowS M) ∧ VS p 36 M (nowS M) ∧ VM p M (nowS M) := by
  obtain ⟨g1, g2, g3, g4, g5, g6, g7, g8, g9, g10⟩ := hN
  obtain ⟨L, l1, l2, l3⟩ := (IvL_iff M).mp hL
  refine ⟨L, ⟨g1, fun q hq => (g7 q hq).2.1.2, l3⟩, ⟨g2, fun _ _ => rfl, fun _ _ => rfl, fun _ _ => rfl, g10, l1⟩, ⟨g3, fun i hi => (g4 i hi).1, fun q hq => (g7 q hq).2.1.1, fun q hq => (g7 q hq).2.2.1.1, l2⟩, ⟨fun i hi => (g5 i hi).2, fun i hi => (g6 i hi).2, fun q hq => (g7 q hq).1.2, fun q hq => (g7 q hq).2.2.2.2, g9.2⟩, ⟨fun _ _ => rfl, fun _ _ => rfl, fun _ _ => rfl, fun _ _ => rfl, rfl⟩, ⟨fun i hi => (g5 i hi).1, fun i hi => (g6 i hi).1, fun q hq => (g7 q hq).1.1, fun q hq => (g7 q hq).2.2.2.1, g9.1⟩⟩
/-- what a thought of the class changes; of the reference -/
def PTc (a i : Nat) : Prop := (42 ≤ a ∧ a ≤ 59) ∨ (12 ≤ a ∧ a ≤ 14) ∨ PG a i
def PTm (a i : Nat) : Prop := a = 68 ∨ a = 69 ∨ a = 70 ∨ (a = 66 ∧ (i = 5 ∨ i = 40 ∨ i = 41)) ∨ a = 80 ∨ a = 81 ∨ 91 ≤ a
def Zr (M : Mem) : Prop := ∀ i, i < 36 → M.1 47 i = 0 ∧ M.1 53 i = 0 ∧ M.1 59 i = 0
def Same (M0 M : Mem) : Prop := (∀ c, c < 36 → M.1 68 c = M0.1 68 c ∧ M.1 69 c = M0.1 69 c) ∧ (∀ i, i < 32 → M.1 70 i = M0.1 70 i) ∧ M.1 66 5 = M0.1 66 5
def Rest (M0 M : Mem) : Prop := Kp PTm M0 M ∧ Same M0 M
theorem think_inv {M M1 M2 : Mem} (hI : Inv M) (h1 : Kp PTc M M1) (hz : Zr M1) (h2 : Rest M1 M2) : Inv M2 := by
  obtain ⟨p, n, hN, hT, hD, hIm, hC, hB, hS, hZ, hL⟩ := hI
  obtain ⟨k2, s1, s2, s3⟩ := h2
  have e2 : M2.2 = M.2 := k2.2.trans h1.2
  have f : ∀ a i, ¬ PTc a i → ¬ PTm a i → M2.1 a i = M.1 a i := fun a i u v => (k2.1 a i v).trans (h1.1 a i u)
  have g : ∀ a, (a ≤ 6 ∨ (8 ≤ a ∧ a ≤ 10) ∨ (15 ≤ a ∧ a ≤ 41) ∨ (60 ≤ a ∧ a ≤ 65) ∨ a = 67 ∨ (71 ≤ a ∧ a ≤ 79) ∨ (82 ≤ a ∧ a ≤ 90)) → M2.1 a = M.1 a := fun a ha => funext fun i => f a i (by unfold PTc PG; omega) (by unfold PTm; omega)
  have c1 : ∀ a i, 66 ≤ a → M1.1 a i = M.1 a i := fun a i ha => h1.1 a i (by unfold PTc PG; omega)
  have q : ∀ i, ¬ (i = 5 ∨ i = 40 ∨ i = 41) → M2.1 66 i = M.1 66 i := fun i hi => f 66 i (by unfold PTc PG; omega) (by unfold PTm; omega)
  obtain ⟨g1, g2, g3, g4, g5, g6, g7, g8, g9, g10⟩ := hN
  refine ⟨p, n, ⟨g1, ?_, ?_, ?_, ?_, ?_, ?_, ?_, ?_, ?_⟩, ?_, ?_, ?_, ?_, ?_, ?_, ?_, ?_⟩
  · rw [g 2 (by omega)]; exact g2
  · rw [q 3 (by omega)]; exact g3
  · rw [g 67 (by omega), g 3 (by omega)]; exact g4
  · intro i hi
    rw [(s1 i hi).1, c1 68 i (by omega), g 37 (by omega)]; exact g5 i hi
  · intro i hi
    rw [(s1 i hi).2, c1 69 i (by omega), g 38 (by omega)]; exact g6 i hi
  · intro r hr
    rw [s2 r (by omega), s2 (8 + r) (by omega), s2 (16 + r) (by omega), s2 (24 + r) (by omega), c1 70 _ (by omega), c1 70 _ (by omega), c1 70 _ (by omega), c1 70 _ (by omega), g 39 (by omega), g 5 (by omega), g 6 (by omega), g 40 (by omega)]
    exact g7 r hr
  · rw [g 40 (by omega)]; exact g8
  · rw [s3, c1 66 5 (by omega), g 36 (by omega)]; exact g9
  · rw [g 4 (by omega), g 3 (by omega)]; exact g10
  · exact hT.congr (f 7 0 (by unfold PTc PG; omega) (by unfold PTm; omega)) (q 6 (by omega)) (g 8 (by omega)) (g 71 (by omega))
  · exact hD.congr (g 82 (by omega)) (g 34 (by omega))
  · exact hIm.congr (congrFun (g 0 (by omega)) 10) (q 25 (by omega)) (q 26 (by omega)) (g 83 (by omega)) (g 61 (by omega)) (g 62 (by omega)) (g 63 (by omega)) (g 64 (by omega)) (congrFun (g 60 (by omega)) 4) (g 84 (by omega)) (g 35 (by omega))
  · exact hC.congr (congrFun (g 15 (by omega)) 4) (congrFun (g 15 (by omega)) 5) (q 30 (by omega)) (q 29 (by omega)) (g 85 (by omega)) (g 16 (by omega)) (g 17 (by omega)) (g 18 (by omega)) (g 19 (by omega))
  · exact hB.congr (congrFun (g 20 (by omega)) 0) (congrFun (g 20 (by omega)) 1) (q 32 (by omega)) (q 34 (by omega)) (g 86 (by omega)) (g 22 (by omega)) (g 87 (by omega)) (g 21 (by omega))
  · exact hS.congr (g 24 (by omega)) (g 25 (by omega)) (g 88 (by omega)) (g 89 (by omega)) (by rw [e2])
  · intro i hi
    obtain ⟨z1, z2, z3⟩ := hz i hi
    rw [g 41 (by omega), k2.1 47 i (by unfold PTm; omega), k2.1 53 i (by unfold PTm; omega), k2.1 59 i (by unfold PTm; omega)]
    exact ⟨(hZ i hi).1, z1, z2, z3⟩
  · exact hL.congr (by rw [e2]) (f 7 6 (by unfold PTc PG; omega) (by unfold PTm; omega)) (q 8 (by omega)) (q 9 (by omega)) (g 72 (by omega)) (g 73 (by omega)) (g 74 (by omega)) (g 75 (by omega)) (g 9 (by omega)) (g 10 (by omega))
/-- a question in thought: both answer the same of the same state -/
def ThkC {α : Type} (f : Mem → Option (α × Mem)) (W : Wd) (s : St) (r : α) : Prop := ∀ M, CW W M → VS W.1 36 M s → Zr M → ∃ M1, f M = some (r, M1) ∧ Kp PTc M M1 ∧ Zr M1
def ThkM {α : Type} (g : Mem → Option (α × Mem)) (W : Wd) (s : St) (r : α) : Prop := ∀ M, MW W M → VM W.1 M s → ∃ M1, g M = some (r, M1) ∧ Rest M M1
theorem sim_think {α : Type} {f g : Mem → Option (α × Mem)} {M : Mem} (hI : Inv M) {p : Nat} {L : Lines} {r : α} (hW : okW (nowW p L M)) (hC : CW (nowW p L M) M) (hM : MW (nowW p L M) M) (hV : VS p 36 M (nowS M)) (hVM : VM p M (nowS M)) (h1 : ThkC f (nowW p L M) (nowS M) r) (h2 : ThkM g (nowW p L M) (nowS M) r) : ∃ r M1 M2, f M = some (r, M1) ∧ g M1 = some (r, M2) ∧ Inv M2 := by
  have hz : Zr M := by
    obtain ⟨p, n, hN, hT, hD, hIm, hC, hB, hS, hZ, hL⟩ := hI
    exact fun i hi => (hZ i hi).2
  obtain ⟨M1, a1, a2, a3⟩ := h1 M hC hV hz
  have hM1 : MW (nowW p L M) M1 := hM.kp a2 (fun a i h => by unfold PTc PG at h; omega) hW.1
  have hV1 : VM p M1 (nowS M) := hVM.kp hW.1 a2 (fun a i h => by unfold PTc PG at h; omega)
  obtain ⟨M2, b1, b2⟩ := h2 M1 hM1 hV1
  exact ⟨r, M1, M2, a1, b1, think_inv hI a2 a3 b2⟩
/-! hours pass in thought -/
def stN (W : Wd) : Nat → St → St
  | 0, s => s
  | n + 1, s => stp W (stN W n s)
theorem stN_ok {W : Wd} (hW : okW W) {s : St} (hs : okS W.1 s) : ∀ n, okS W.1 (stN W n s) := by
  intro n
  induction n with
  | zero => exact hs
  | succ n ih => exact stp_ok hW ih
theorem stN_s (W : Wd) (n : Nat) (s : St) : stN W n (stp W s) = stN W (n + 1) s := by
  induction n with
  | zero => rfl
  | succ n ih => show stp W (stN W n (stp W s)) = _; rw [ih]; rfl
/-- the class in thought, on its street -/
def ThC (W : Wd) (b : Nat) (M0 : Mem) (s : St) (M : Mem) : Prop := Kp PTc M0 M ∧ CW W M ∧ VS W.1 b M s ∧ Zr M
theorem begin_c {W : Wd} (hW : okW W) {s : St} {M0 M : Mem} (hK : Kp PTc M0 M) (hC : CW W M) (hV : VS W.1 36 M s) (hz : Zr M) : ∃ M1, fThought_begin M = some M1 ∧ ThC W 42 M0 s M1 := by
  obtain ⟨M1, e, K, V, -⟩ := become_c (b0 := 42) (b1 := 36) hW.1 (by omega) hV
  refine ⟨M1, by rw [fThought_begin, hC.1, e, Option.bind_some], hK.tr (K.mono (fun a i h => by unfold PB at h; unfold PTc; omega)), hC.kp K (fun a i h => by unfold PB at h; omega), V, fun i hi => ?_⟩
  rw [K.1 47 i (by unfold PB; omega), K.1 53 i (by unfold PB; omega), K.1 59 i (by unfold PB; omega)]
  exact hz i hi
theorem ThC.pass {W : Wd} (hW : okW W) {b : Nat} (hb : b = 42 ∨ b = 54) {M0 M : Mem} {s : St} (hs : okS W.1 s) (h : ThC W b M0 s M) : ∃ M1, fStreet_pass M b = some M1 ∧ ThC W b M0 (stp W s) M1 ∧ (M1.1 b 7 = 0 ∧ ¬ 0 < drk W s ∧ ¬ Chg W s 36 ∨ M1.1 b 7 = 1 ∧ (0 < drk W s ∨ Chg W s 36)) := by
  obtain ⟨h1, h2, h3, h4⟩ := h
  obtain ⟨M1, e, K, V, z, -, -, c⟩ := pass_c hW hs (b := b) (by omega) h2 h3 (fun i hi => by
    rcases hb with rfl | rfl
    · exact (h4 i hi).1
    · exact (h4 i hi).2.2)
  refine ⟨M1, e, ⟨h1.tr (K.mono (fun a i h => by unfold PC PG at h; unfold PTc PG; omega)), h2.kp K (fun a i h => by unfold PC PG at h; omega), V, fun i hi => ?_⟩, c⟩
  obtain ⟨z1, z2, z3⟩ := h4 i hi
  rcases hb with rfl | rfl
  · rw [K.1 53 i (by unfold PC PG; omega), K.1 59 i (by unfold PC PG; omega)]
    exact ⟨z i hi, z2, z3⟩
  · rw [K.1 47 i (by unfold PC PG; omega), K.1 53 i (by unfold PC PG; omega)]
    exact ⟨z1, z2, z i hi⟩
theorem ThC.spend {W : Wd} (hW : okW W) {M0 M : Mem} {s : St} (hs : okS W.1 s) (h : ThC W 42 M0 s M) (n : Nat) (hn : n ≤ 1000) : ∃ M1, fThought_spend M (nI n) = some M1 ∧ ThC W 42 M0 (stN W n s) M1 := by
  obtain ⟨r, e, hr⟩ := loop0 (σ := Mem × Int32) (fun k t => fThought_spend_L2 k t.1 (nI n) t.2) (fun i t => t.2 = nI i ∧ ThC W 42 M0 (stN W i s) t.1) (fun r => ThC W 42 M0 (stN W n s) r) n (fu_lt (by omega)) (M, 0) ⟨rfl, h⟩
    (fun k i t hi hP => by
      obtain ⟨t1, t2⟩ := t
      obtain ⟨q1, hT⟩ := hP
      dsimp only at q1 hT
      subst q1
      right
      obtain ⟨M1, e1, hT1, -⟩ := hT.pass hW (Or.inl rfl) (stN_ok hW hs i)
      refine ⟨(M1, nI (i + 1)), ⟨rfl, hT1⟩, ?_⟩
      show fThought_spend_L2_F (fThought_spend_L2 k) t1 (nI n) (nI i) = _
      have h0 : ¬ nI n ≤ nI i := nI_ge hi (by omega)
      simp only [fThought_spend_L2_F, h0, if_false, e1, Option.bind_some, nI_1])
    (fun k t hP => by
      obtain ⟨t1, t2⟩ := t
      obtain ⟨q1, hT⟩ := hP
      dsimp only at q1 hT
      subst q1
      refine ⟨t1, ?_, hT⟩
      show fThought_spend_L2_F (fThought_spend_L2 k) t1 (nI n) (nI n) = _
      simp only [fThought_spend_L2_F, Int32.le_refl, if_true])
  have e' : fThought_spend_L2 FU M (nI n) 0 = some r := e
  exact ⟨r, by rw [fThought_spend, e', Option.bind_some], hr⟩
/-- the reference in thought; what it kept lies in a -/
def ThM (W : Wd) (a : Nat) (M0 : Mem) (s : St) (M : Mem) : Prop := Kp PTm M0 M ∧ MW W M ∧ VM W.1 M s ∧ Kpt a M0 M
theorem Same.rf (M : Mem) : Same M M := ⟨fun _ _ => ⟨rfl, rfl⟩, fun _ _ => rfl, rfl⟩
theorem Rest.rf (M : Mem) : Rest M M := ⟨Kp.rf _ _, Same.rf M⟩
theorem MW.rest {W : Wd} (hW : okW W) {M0 M : Mem} (h : MW W M0) (r : Rest M0 M) : MW W M := by
  obtain ⟨h1, h2, h3, h4, h5, h6⟩ := h
  obtain ⟨k, s1, s2, s3⟩ := r
  have p8 := hW.1
  have f : ∀ a i, (a = 66 ∧ (i = 3 ∨ i = 8 ∨ i = 9)) ∨ a = 67 ∨ (72 ≤ a ∧ a ≤ 75) → M.1 a i = M0.1 a i := fun a i ha => k.1 a i (by unfold PTm; omega)
  have g : ∀ a, a = 67 ∨ (72 ≤ a ∧ a ≤ 75) → M.1 a = M0.1 a := fun a ha => funext fun i => f a i (by omega)
  refine ⟨by rw [f 66 3 (by omega)]; exact h1, by rw [g 67 (by omega)]; exact h2, fun q hq => by rw [s2 _ (by omega)]; exact h3 q hq, fun q hq => by rw [s2 _ (by omega)]; exact h4 q hq, by rw [f 66 8 (by omega)]; exact h5, ?_⟩
  rw [f 66 9 (by omega), g 72 (by omega), g 73 (by omega), g 74 (by omega), g 75 (by omega)]
  exact h6
theorem VM.rest {p : Nat} (hp : p ≤ 8) {s : St} {M0 M : Mem} (h : VM p M0 s) (r : Rest M0 M) : VM p M s := by
  obtain ⟨h1, h2, h3, h4, h5⟩ := h
  obtain ⟨k, s1, s2, s3⟩ := r
  refine ⟨fun i hi => by rw [(s1 i hi).1]; exact h1 i hi, fun i hi => by rw [(s1 i hi).2]; exact h2 i hi, fun q hq => by rw [s2 _ (by omega)]; exact h3 q hq, fun q hq => by rw [s2 _ (by omega)]; exact h4 q hq, by rw [s3]; exact h5⟩
theorem keep_m {W : Wd} (hW : okW W) {s : St} {M0 M : Mem} (h : MW W M0) (hV : VM W.1 M0 s) (r : Rest M0 M) (a : Nat) (ha : 91 < a) : ∃ M1, fMd_keeps M a = some M1 ∧ ThM W a M0 s M1 ∧ Rest M0 M1 := by
  obtain ⟨M1, e, K, k1, k2, k3⟩ := keeps_m M a (by omega)
  have s0 := r.2
  have hr : Rest M0 M1 := by
    refine ⟨r.1.tr (K.mono (fun b i hb => by unfold PTm; omega)), fun c hc => ?_, fun i hi => ?_, ?_⟩
    · rw [K.1 68 c (by omega), K.1 69 c (by omega)]; exact s0.1 c hc
    · rw [K.1 70 i (by omega)]; exact s0.2.1 i hi
    · rw [K.1 66 5 (by omega)]; exact s0.2.2
  refine ⟨M1, e, ⟨hr.1, h.rest hW hr, hV.rest hW.1 hr, fun c hc => ?_, fun i hi => ?_, ?_⟩, hr⟩
  · rw [(k1 c hc).1, (k1 c hc).2]; exact s0.1 c hc
  · rw [k2 i hi]; exact s0.2.1 i hi
  · rw [k3]; exact s0.2.2
theorem ThM.lays {W : Wd} {a : Nat} {M0 M : Mem} {s : St} (ha : 91 < a) (h : ThM W a M0 s M) : ∃ M1, fMd_laysBack M a = some M1 ∧ Rest M0 M1 ∧ Kpt a M0 M1 := by
  obtain ⟨h1, h2, h3, k1, k2, k3⟩ := h
  obtain ⟨M1, e, K, l1, l2, l3⟩ := lays_m M a (by omega)
  have ea : ∀ j, M1.1 a j = M.1 a j := fun j => K.1 a j (by unfold PK; omega)
  refine ⟨M1, e, ⟨h1.tr (K.mono (fun b i hb => by unfold PK at hb; unfold PTm; omega)), fun c hc => ?_, fun i hi => ?_, ?_⟩, fun c hc => ?_, fun i hi => ?_, ?_⟩
  · rw [← (l1 c hc).1, ← (l1 c hc).2, ea, ea]; exact k1 c hc
  · rw [← l2 i hi, ea]; exact k2 i hi
  · rw [← l3, ea]; exact k3
  · rw [ea, ea]; exact k1 c hc
  · rw [ea]; exact k2 i hi
  · rw [ea]; exact k3
theorem ThM.pass {W : Wd} (hW : okW W) {a : Nat} (ha : 91 < a) {M0 M : Mem} {s : St} (hs : okS W.1 s) (h : ThM W a M0 s M) : ∃ M1, fMd_passes M = some M1 ∧ ThM W a M0 (stp W s) M1 := by
  obtain ⟨h1, h2, h3, k1, k2, k3⟩ := h
  obtain ⟨M1, e, K, V, -, -⟩ := pass_m hW hs h2 h3
  have ea : ∀ j, M1.1 a j = M.1 a j := fun j => K.1 a j (by unfold PMd; omega)
  refine ⟨M1, e, h1.tr (K.mono (fun b i hb => by unfold PMd at hb; unfold PTm; omega)), h2.kp K (fun b i hb => by unfold PMd at hb; omega) hW.1, V, fun c hc => ?_, fun i hi => ?_, ?_⟩
  · rw [ea, ea]; exact k1 c hc
  · rw [ea]; exact k2 i hi
  · rw [ea]; exact k3
theorem ThM.goes {W : Wd} (hW : okW W) {a : Nat} (ha : 91 < a) {M0 M : Mem} {s : St} (hs : okS W.1 s) (h : ThM W a M0 s M) (n : Nat) (hn : n ≤ 1000) : ∃ M1, fMd_goesOn M (nI n) = some M1 ∧ ThM W a M0 (stN W n s) M1 := by
  obtain ⟨r, e, hr⟩ := loop0 (σ := Mem × Int32) (fun k t => fMd_goesOn_L2 k t.1 (nI n) t.2) (fun i t => t.2 = nI i ∧ ThM W a M0 (stN W i s) t.1) (fun r => ThM W a M0 (stN W n s) r) n (fu_lt (by omega)) (M, 0) ⟨rfl, h⟩
    (fun k i t hi hP => by
      obtain ⟨t1, t2⟩ := t
      obtain ⟨q1, hT⟩ := hP
      dsimp only at q1 hT
      subst q1
      right
      obtain ⟨M1, e1, hT1⟩ := hT.pass hW ha (stN_ok hW hs i)
      refine ⟨(M1, nI (i + 1)), ⟨rfl, hT1⟩, ?_⟩
      show fMd_goesOn_L2_F (fMd_goesOn_L2 k) t1 (nI n) (nI i) = _
      have h0 : ¬ nI n ≤ nI i := nI_ge hi (by omega)
      simp only [fMd_goesOn_L2_F, h0, if_false, e1, Option.bind_some, nI_1])
    (fun k t hP => by
      obtain ⟨t1, t2⟩ := t
      obtain ⟨q1, hT⟩ := hP
      dsimp only at q1 hT
      subst q1
      refine ⟨t1, ?_, hT⟩
      show fMd_goesOn_L2_F (fMd_goesOn_L2 k) t1 (nI n) (nI n) = _
      simp only [fMd_goesOn_L2_F, Int32.le_refl, if_true])
  have e' : fMd_goesOn_L2 FU M (nI n) 0 = some r := e
  exact ⟨r, by rw [fMd_goesOn, e', Option.bind_some], hr⟩
theorem has_m {W : Wd} {a : Nat} {M0 M : Mem} {s : St} (h : ThM W a M0 s M) (hp : W.1 ≤ 8) {q : Nat} (hq : q < W.1) : fMd_has M (nI q) = some (s.2.2.2.1 q) := by
  have e : (24 : Int32) + nI q = nI (24 + q) := nI_add 24 q
  rw [fMd_has, e, rdI_n (by omega) (by omega), Option.bind_some, h.2.2.1.2.2.2.1 q hq]
