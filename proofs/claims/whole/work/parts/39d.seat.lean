/-! seat -/
theorem begin_k {W : Wd} (hW : okW W) {s : St} {M0 M : Mem} (hK : Kp PTc M0 M) (hC : CW W M) (hV : VS W.1 36 M s) (hz : Zr M) : ∃ M1, fThought_begin M = some M1 ∧ ThC W 42 M0 s M1 ∧ Kp (PB 42) M M1 := by
  obtain ⟨M1, e, K, V, -⟩ := become_c (b0 := 42) (b1 := 36) hW.1 (by omega) hV
  refine ⟨M1, by rw [fThought_begin, hC.1, e, Option.bind_some], ⟨hK.tr (K.mono (fun a i h => by unfold PB at h; unfold PTc; omega)), hC.kp K (fun a i h => by unfold PB at h; omega), V, fun i hi => ?_⟩, K⟩
  rw [K.1 47 i (by unfold PB; omega), K.1 53 i (by unfold PB; omega), K.1 59 i (by unfold PB; omega)]
  exact hz i hi
theorem ThC.pass_k {W : Wd} (hW : okW W) {b : Nat} (hb : b = 42 ∨ b = 54) {M0 M : Mem} {s : St} (hs : okS W.1 s) (h : ThC W b M0 s M) : ∃ M1, fStreet_pass M b = some M1 ∧ ThC W b M0 (stp W s) M1 ∧ Kp (PC W.1 b) M M1 := by
  obtain ⟨h1, h2, h3, h4⟩ := h
  obtain ⟨M1, e, K, V, z, -, -, c⟩ := pass_c hW hs (b := b) (by omega) h2 h3 (fun i hi => by
    rcases hb with rfl | rfl
    · exact (h4 i hi).1
    · exact (h4 i hi).2.2)
  refine ⟨M1, e, ⟨h1.tr (K.mono (fun a i h => by unfold PC PG at h; unfold PTc PG; omega)), h2.kp K (fun a i h => by unfold PC PG at h; omega), V, fun i hi => ?_⟩, K⟩
  obtain ⟨z1, z2, z3⟩ := h4 i hi
  rcases hb with rfl | rfl
  · rw [K.1 53 i (by unfold PC PG; omega), K.1 59 i (by unfold PC PG; omega)]
    exact ⟨z i hi, z2, z3⟩
  · rw [K.1 47 i (by unfold PC PG; omega), K.1 53 i (by unfold PC PG; omega)]
    exact ⟨z1, z2, z i hi⟩
theorem ThC.spend_k {W : Wd} (hW : okW W) {M0 M : Mem} {s : St} (hs : okS W.1 s) (h : ThC W 42 M0 s M) (n : Nat) (hn : n ≤ 1000) : ∃ M1, fThought_spend M (nI n) = some M1 ∧ ThC W 42 M0 (stN W n s) M1 ∧ Kp (PC W.1 42) M M1 := by
  obtain ⟨r, e, hr, hk⟩ := loop0 (σ := Mem × Int32) (fun k t => fThought_spend_L2 k t.1 (nI n) t.2) (fun i t => t.2 = nI i ∧ ThC W 42 M0 (stN W i s) t.1 ∧ Kp (PC W.1 42) M t.1) (fun r => ThC W 42 M0 (stN W n s) r ∧ Kp (PC W.1 42) M r) n (fu_lt (by omega)) (M, 0) ⟨rfl, h, Kp.rf _ _⟩
    (fun k i t hi hP => by
      obtain ⟨t1, t2⟩ := t
      obtain ⟨q1, hT, hk⟩ := hP
      dsimp only at q1 hT hk
      subst q1
      right
      obtain ⟨M1, e1, hT1, k1⟩ := hT.pass_k hW (Or.inl rfl) (stN_ok hW hs i)
      refine ⟨(M1, nI (i + 1)), ⟨rfl, hT1, hk.tr k1⟩, ?_⟩
      show fThought_spend_L2_F (fThought_spend_L2 k) t1 (nI n) (nI i) = _
      have h0 : ¬ nI n ≤ nI i := nI_ge hi (by omega)
      simp only [fThought_spend_L2_F, h0, if_false, e1, Option.bind_some, nI_1])
    (fun k t hP => by
      obtain ⟨t1, t2⟩ := t
      obtain ⟨q1, hT, hk⟩ := hP
      dsimp only at q1 hT hk
      subst q1
      refine ⟨t1, ?_, hT, hk⟩
      show fThought_spend_L2_F (fThought_spend_L2 k) t1 (nI n) (nI n) = _
      simp only [fThought_spend_L2_F, Int32.le_refl, if_true])
  have e' : fThought_spend_L2 FU M (nI n) 0 = some r := e
  exact ⟨r, by rw [fThought_spend, e', Option.bind_some], hr, hk⟩
/-- one sits elsewhere -/
def seatS (s : St) (q c : Nat) : St := (s.1, s.2.1, upd s.2.2.1 q (nI c), s.2.2.2)
theorem seat_ok {p : Nat} {s : St} (hs : okS p s) (q c : Nat) (hc : c < 36) : okS p (seatS s q c) := by
  refine ⟨hs.1, hs.2.1, fun r hr => ?_, hs.2.2.2⟩
  show ∃ d, d < 36 ∧ upd s.2.2.1 q (nI c) r = nI d
  rw [upd_a]
  by_cases z : r = q
  · exact ⟨c, hc, by rw [if_pos z]⟩
  · rw [if_neg z]; exact hs.2.2.1 r hr
/-- the best seat among the first k -/
def bst (f : Nat → Int32) : Nat → Nat × Int32
  | 0 => (0, -1)
  | k + 1 => if (bst f k).2 < f k then (k, f k) else bst f k
def seatH (W : Wd) (s : St) (q n c : Nat) : Int32 := (stN W n (seatS s q c)).2.2.2.1 q
theorem s_seat (x t z : Int32) : Sim (fun M => fSh_seat M x t z) (fun M => fMd_seat M x t z) := sim_t fun W s hW hs => by
  have o1 : ¬ (1 : Int32) = 0 := by decide
  rcases pers_cases W.1 hW.1 x with g | ⟨q, hq, rfl, g⟩
  · exact ⟨-1, .const fun M hC => by simp [fSh_seat, pers_c hC, g], .const fun M hC => by simp [fMd_seat, pers_m hW hC, g]⟩
  have q8 : q < 8 := by have := hW.1; omega
  by_cases ht : t < 0 ∨ 24 < t
  · refine ⟨-1, .const fun M hC => ?_, .const fun M hC => ?_⟩
    · simp only [fSh_seat, pers_c hC, g]; grind
    · simp only [fMd_seat, pers_m hW hC, g, fMd_within]; grind
  obtain ⟨t1, t2, t3⟩ : ¬ t < 0 ∧ ¬ 24 < t ∧ fMd_within t 0 24 = 1 := by unfold fMd_within; grind
  obtain ⟨n, hn, rfl⟩ := in_lit (x := t) (b := 25) 25 (by omega) rfl t1 (by grind)
  have has_ok : ∀ c, c < 36 → ∃ a : Nat, a ≤ 9999 ∧ seatH W s q n c = nI a := fun c hc => r9999.mp ((stN_ok hW (seat_ok hs q c hc) n).2.2.2.1 q hq)
  have runC : ∀ M, CW W M → VS W.1 36 M s → Zr M → ∃ M1, fThought_bestSeat M (nI q) (nI n) = some (nI (bst (seatH W s q n) 36).1, M1) ∧ Kp PTc M M1 ∧ Zr M1 ∧ M1.1 12 3 = (bst (seatH W s q n) 36).2 := fun M hC hV hz => by
    obtain ⟨R, eR, h1, h2, h3, h4⟩ := loop0 (σ := Mem × Int32 × Int32) (fun k u => fThought_bestSeat_L6 k u.1 (nI q) (nI n) u.2.1 u.2.2) (fun i u => u.2.2 = nI i ∧ Kp PTc M u.1 ∧ CW W u.1 ∧ Zr u.1 ∧ (i = 0 ∧ u.2.1 = -1 ∨ 0 < i ∧ u.2.1 = nI (bst (seatH W s q n) i).1 ∧ u.1.1 12 3 = (bst (seatH W s q n) i).2 ∧ (bst (seatH W s q n) i).1 < 36)) (fun R => R.2 = nI (bst (seatH W s q n) 36).1 ∧ Kp PTc M R.1 ∧ Zr R.1 ∧ R.1.1 12 3 = (bst (seatH W s q n) 36).2) 36 (fu_lt (by omega)) (M, -1, 0) ⟨rfl, Kp.rf _ _, hC, hz, Or.inl ⟨rfl, rfl⟩⟩
      (fun k i u hi hP => by
        obtain ⟨u1, u2, u3⟩ := u
        obtain ⟨e3, K, C1, Z1, hb⟩ := hP
        dsimp only at e3 K C1 Z1 hb
        subst e3
        right
        have V1 : VS W.1 36 u1 s := hV.kp K (fun a i h => by unfold PTc PG at h; omega)
        obtain ⟨M2, b2, T2, K2⟩ := begin_k hW K C1 V1 Z1
        have K3 : Kp (fun a j => a = 45) M2 (wI M2 (42 + 3) q (nI i)) := Kp.w _ _ rfl
        have T3 : ThC W 42 M (seatS s q i) (wI M2 (42 + 3) q (nI i)) := by
          obtain ⟨a1, a2, a3, a4⟩ := T2
          refine ⟨a1.tr (K3.mono (fun a i h => by unfold PTc; omega)), a2.kp K3 (fun a i h => by omega), ⟨fun j hj => ?_, fun j hj => ?_, fun r hr => ?_, fun r hr => ?_, ?_⟩, fun j hj => ?_⟩
          · rw [K3.1 _ _ (by omega)]; exact a3.1 j hj
          · rw [K3.1 _ _ (by omega)]; exact a3.2.1 j hj
          · rw [wI_1, if_pos rfl, upd_a]
            show _ = upd s.2.2.1 q (nI i) r
            rw [upd_a, a3.2.2.1 r hr]
          · rw [K3.1 _ _ (by omega)]; exact a3.2.2.2.1 r hr
          · rw [K3.1 _ _ (by omega)]; exact a3.2.2.2.2
          · rw [K3.1 _ _ (by omega), K3.1 _ _ (by omega), K3.1 _ _ (by omega)]; exact a4 j hj
        obtain ⟨M4, b4, T4, K4⟩ := T3.spend_k hW (seat_ok hs q i hi) n (by omega)
        have hh : M4.1 (42 + 4) q = seatH W s q n i := T4.2.2.1.2.2.2.1 q hq
        have f12 : M4.1 12 3 = u1.1 12 3 := by rw [K4.1 12 3 (by unfold PC PG; omega), K3.1 12 3 (by omega), K2.1 12 3 (by unfold PB; omega)]
        have h36 := nI_lt36 hi
        have base : fThought_bestSeat_L6 (k + 1) u1 (nI q) (nI n) u2 (nI i) = if u2 = -1 then fThought_bestSeat_L6 k (wI M4 12 3 (seatH W s q n i)) (nI q) (nI n) (nI i) (nI (i + 1)) else if seatH W s q n i ≤ u1.1 12 3 then fThought_bestSeat_L6 k M4 (nI q) (nI n) u2 (nI (i + 1)) else fThought_bestSeat_L6 k (wI M4 12 3 (seatH W s q n i)) (nI q) (nI n) (nI i) (nI (i + 1)) := by
          show fThought_bestSeat_L6_F (fThought_bestSeat_L6 k) u1 (nI q) (nI n) u2 (nI i) = _
          simp only [fThought_bestSeat_L6_F, h36, if_false, b2, Option.bind_some, stI_n q8 (by omega : 8 ≤ 1000), b4, fThought_bestSeat_J57_6, rdI_n q8 (by omega : 8 ≤ 1000), hh, f12, nI_1]
        have w12 : (wI M4 12 3 (seatH W s q n i)).1 12 3 = seatH W s q n i := rfl
        have Kw : Kp (fun a i => a = 12 ∧ i = 3) M4 (wI M4 12 3 (seatH W s q n i)) := Kp.w _ _ (by omega)
        have new : (bst (seatH W s q n) (i + 1)) = (i, seatH W s q n i) → ∃ s' : Mem × Int32 × Int32, (s'.2.2 = nI (i + 1) ∧ Kp PTc M s'.1 ∧ CW W s'.1 ∧ Zr s'.1 ∧ (i + 1 = 0 ∧ s'.2.1 = -1 ∨ 0 < i + 1 ∧ s'.2.1 = nI (bst (seatH W s q n) (i + 1)).1 ∧ s'.1.1 12 3 = (bst (seatH W s q n) (i + 1)).2 ∧ (bst (seatH W s q n) (i + 1)).1 < 36)) ∧ fThought_bestSeat_L6 k (wI M4 12 3 (seatH W s q n i)) (nI q) (nI n) (nI i) (nI (i + 1)) = fThought_bestSeat_L6 k s'.1 (nI q) (nI n) s'.2.1 s'.2.2 := fun hb' => by
          refine ⟨(wI M4 12 3 (seatH W s q n i), nI i, nI (i + 1)), ⟨rfl, T4.1.tr (Kw.mono (fun a i h => by unfold PTc; omega)), T4.2.1.kp Kw (fun a i h => by omega), fun j hj => ?_, Or.inr ⟨by omega, ?_, ?_, ?_⟩⟩, rfl⟩
          · rw [Kw.1 _ _ (by omega), Kw.1 _ _ (by omega), Kw.1 _ _ (by omega)]; exact T4.2.2.2 j hj
          · rw [hb']
          · rw [hb']; exact w12
          · rw [hb']; exact hi
        have old : bst (seatH W s q n) (i + 1) = bst (seatH W s q n) i → 0 < i → u2 = nI (bst (seatH W s q n) i).1 → u1.1 12 3 = (bst (seatH W s q n) i).2 → (bst (seatH W s q n) i).1 < 36 → ∃ s' : Mem × Int32 × Int32, (s'.2.2 = nI (i + 1) ∧ Kp PTc M s'.1 ∧ CW W s'.1 ∧ Zr s'.1 ∧ (i + 1 = 0 ∧ s'.2.1 = -1 ∨ 0 < i + 1 ∧ s'.2.1 = nI (bst (seatH W s q n) (i + 1)).1 ∧ s'.1.1 12 3 = (bst (seatH W s q n) (i + 1)).2 ∧ (bst (seatH W s q n) (i + 1)).1 < 36)) ∧ fThought_bestSeat_L6 k M4 (nI q) (nI n) u2 (nI (i + 1)) = fThought_bestSeat_L6 k s'.1 (nI q) (nI n) s'.2.1 s'.2.2 := fun hb' i0 e2 e12 l36 => by
          exact ⟨(M4, u2, nI (i + 1)), ⟨rfl, T4.1, T4.2.1, T4.2.2.2, Or.inr ⟨by omega, by rw [hb']; exact e2, by rw [hb']; exact f12.trans e12, by rw [hb']; exact l36⟩⟩, rfl⟩
        dsimp only
        rw [base]
        rcases hb with ⟨rfl, e2⟩ | ⟨i0, e2, e12, l36⟩
        · rw [if_pos e2]
          apply new
          obtain ⟨a, ha, ea⟩ := has_ok 0 (by omega)
          have : (-1 : Int32) < seatH W s q n 0 := by
            rw [ea]
            exact Int32.lt_of_lt_of_le (by decide) (nI_pos' (by omega))
          show (if (-1 : Int32) < seatH W s q n 0 then ((0 : Nat), seatH W s q n 0) else ((0 : Nat), (-1 : Int32))) = _
          rw [if_pos this]
        · have n1 : ¬ u2 = -1 := by rw [e2]; exact m1_ne (by omega)
          rw [if_neg n1]
          by_cases y : seatH W s q n i ≤ u1.1 12 3
          · rw [if_pos y]
            refine old ?_ i0 e2 e12 l36
            rw [bst, if_neg]
            rw [← e12]
            exact Int32.not_lt.mpr y
          · rw [if_neg y]
            apply new
            rw [bst, if_pos]
            rw [← e12]
            exact Int32.not_le.mp y)
      (fun k u hP => by
        obtain ⟨u1, u2, u3⟩ := u
        obtain ⟨e3, K, C1, Z1, hb⟩ := hP
        dsimp only at e3 K C1 Z1 hb
        subst e3
        rcases hb with ⟨h, -⟩ | ⟨-, e2, e12, -⟩
        · omega
        · refine ⟨(u1, u2), ?_, e2, K, Z1, e12⟩
          show fThought_bestSeat_L6_F (fThought_bestSeat_L6 k) u1 (nI q) (nI n) u2 (nI 36) = _
          simp only [fThought_bestSeat_L6_F, nI_ge36, if_true])
    obtain ⟨M1, r⟩ := R
    dsimp only at h1 h2 h3 h4
    have eR' : fThought_bestSeat_L6 FU M (nI q) (nI n) (-1) 0 = some (M1, r) := eR
    exact ⟨M1, by rw [fThought_bestSeat, eR', Option.bind_some, h1], h2, h3, h4⟩
  have runM : ∀ M, MW W M → VM W.1 M s → ∃ M0 M1, fMd_keeps M 92 = some M0 ∧ fMd_seat_L46 FU M0 (nI q) (nI n) 0 (-1) 0 = some (M1, nI (bst (seatH W s q n) 36).1, (bst (seatH W s q n) 36).2) ∧ Rest M M1 := fun M hC hV => by
    obtain ⟨M0, e0, t0, r0⟩ := keep_m hW hC hV (Rest.rf M) 92 (by omega)
    obtain ⟨R, eR, h1, h2⟩ := loop0 (σ := Mem × Int32 × Int32 × Int32) (fun k u => fMd_seat_L46 k u.1 (nI q) (nI n) u.2.1 u.2.2.1 u.2.2.2) (fun i u => u.2 = (nI (bst (seatH W s q n) i).1, (bst (seatH W s q n) i).2, nI i) ∧ Rest M u.1 ∧ Kpt 92 M u.1) (fun R => R.2 = (nI (bst (seatH W s q n) 36).1, (bst (seatH W s q n) 36).2) ∧ Rest M R.1) 36 (fu_lt (by omega)) (M0, 0, -1, 0) ⟨rfl, r0, t0.2.2.2⟩
      (fun k i u hi hP => by
        obtain ⟨u1, u2⟩ := u
        obtain ⟨e3, R1, k1⟩ := hP
        dsimp only at e3 R1 k1
        subst e3
        right
        have C1 := hC.rest hW R1
        have V1 := hV.rest hW.1 R1
        have K3 : Kp (fun a j => a = 70 ∧ j = q) u1 (wI u1 70 q (nI i)) := Kp.w _ _ (by omega)
        have T3 : ThM W 92 M (seatS s q i) (wI u1 70 q (nI i)) := by
          refine ⟨R1.1.tr (K3.mono (fun a i h => by unfold PTm; omega)), C1.kp K3 (fun a i h => by omega) hW.1, ⟨fun j hj => ?_, fun j hj => ?_, fun r hr => ?_, fun r hr => ?_, ?_⟩, fun j hj => ?_, fun j hj => ?_, ?_⟩
          · rw [K3.1 _ _ (by omega)]; exact V1.1 j hj
          · rw [K3.1 _ _ (by omega)]; exact V1.2.1 j hj
          · rw [wI_1, if_pos rfl, upd_a]
            show _ = upd s.2.2.1 q (nI i) r
            rw [upd_a, V1.2.2.1 r hr]
          · rw [K3.1 _ _ (by omega)]; exact V1.2.2.2.1 r hr
          · rw [K3.1 _ _ (by omega)]; exact V1.2.2.2.2
          · rw [K3.1 _ _ (by omega), K3.1 _ _ (by omega)]; exact k1.1 j hj
          · rw [K3.1 _ _ (by omega)]; exact k1.2.1 j hj
          · rw [K3.1 _ _ (by omega)]; exact k1.2.2
        obtain ⟨M4, b4, T4⟩ := T3.goes hW (by omega) (seat_ok hs q i hi) n (by omega)
        obtain ⟨M5, b5, R5, k5⟩ := T4.lays (by omega)
        have hh : fMd_has M4 (nI q) = some (seatH W s q n i) := has_m T4 hW.1 hq
        have h36 := nI_lt36 hi
        refine ⟨(M5, nI (bst (seatH W s q n) (i + 1)).1, (bst (seatH W s q n) (i + 1)).2, nI (i + 1)), ⟨rfl, R5, k5⟩, ?_⟩
        show fMd_seat_L46_F (fMd_seat_L46 k) u1 (nI q) (nI n) _ _ (nI i) = _
        simp only [fMd_seat_L46_F, h36, if_false, stI_n (show q < 32 by omega) (by omega : 32 ≤ 1000), Option.bind_some, b4, hh, b5, nI_1, bst]
        by_cases y : (bst (seatH W s q n) i).2 < seatH W s q n i
        · simp only [y, if_true]
        · simp only [y, if_false])
      (fun k u hP => by
        obtain ⟨u1, u2⟩ := u
        obtain ⟨e3, R1, k1⟩ := hP
        dsimp only at e3 R1 k1
        subst e3
        refine ⟨(u1, nI (bst (seatH W s q n) 36).1, (bst (seatH W s q n) 36).2), ?_, rfl, R1⟩
        show fMd_seat_L46_F (fMd_seat_L46 k) u1 (nI q) (nI n) _ _ (nI 36) = _
        simp only [fMd_seat_L46_F, nI_ge36, if_true])
    obtain ⟨M1, r⟩ := R
    dsimp only at h1 h2
    subst h1
    exact ⟨M0, M1, e0, eR, h2⟩
  rcases two_cases z with ⟨hz, w⟩ | ⟨rfl, w⟩ | ⟨rfl, w⟩
  · refine ⟨-1, .const fun M hC => ?_, .const fun M hC => by simp [fMd_seat, pers_m hW hC, g, t3, w]⟩
    simp only [fSh_seat, pers_c hC, g, t1, t2, o1, if_false]
    by_cases q : z < 0
    · simp [q]
    · simp [q, hz.resolve_left q]
  · refine ⟨nI (bst (seatH W s q n) 36).1, fun M hC hV hz => ?_, fun M hC hV => ?_⟩
    · obtain ⟨M1, e, a1, a2, a3⟩ := runC M hC hV hz
      refine ⟨M1, ?_, a1, a2⟩
      show fSh_seat M (nI q) (nI n) 0 = _
      have z0 : ¬ (0 : Int32) < 0 := by decide
      have z1 : (0 : Int32) ≤ 1 := by decide
      rw [fSh_seat, pers_c hC, g, if_neg o1, if_neg t1, if_neg t2, if_neg z0, if_pos z1, e, Option.bind_some, if_neg (fun y => y rfl)]
    · obtain ⟨M0, M1, e0, e, a1⟩ := runM M hC hV
      refine ⟨M1, ?_, a1⟩
      show fMd_seat M (nI q) (nI n) 0 = _
      rw [fMd_seat, pers_m hW hC, g, if_neg o1, t3, if_neg o1, w, if_pos o1, e0, Option.bind_some, e, Option.bind_some, if_neg (fun y => y rfl)]
  · refine ⟨(bst (seatH W s q n) 36).2, fun M hC hV hz => ?_, fun M hC hV => ?_⟩
    · obtain ⟨M1, e, a1, a2, a3⟩ := runC M hC hV hz
      refine ⟨M1, ?_, a1, a2⟩
      show fSh_seat M (nI q) (nI n) 1 = _
      have z0 : ¬ (1 : Int32) < 0 := by decide
      have z1 : (1 : Int32) ≤ 1 := by decide
      rw [fSh_seat, pers_c hC, g, if_neg o1, if_neg t1, if_neg t2, if_neg z0, if_pos z1, e, Option.bind_some, if_pos o1, a3]
    · obtain ⟨M0, M1, e0, e, a1⟩ := runM M hC hV
      refine ⟨M1, ?_, a1⟩
      show fMd_seat M (nI q) (nI n) 1 = _
      rw [fMd_seat, pers_m hW hC, g, if_neg o1, t3, if_neg o1, w, if_pos o1, e0, Option.bind_some, e, Option.bind_some, if_pos o1]
