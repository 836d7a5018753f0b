/-! hour, image, back -/
theorem lowr_congr {f g : Nat → Int32} (h : ∀ i, i < 36 → f i = g i) {c low w : Nat} (hc : c < 36) (hl : low < 36) (hw : w < 4) : lowr f c low w = lowr g c low w := by
  unfold lowr
  cases e : bsd c w with
  | none => rfl
  | some d =>
    have hd := bs_lt c hc w hw d e
    dsimp only
    rw [h d hd, h low hl]
theorem blw_congr {f g : Nat → Int32} (h : ∀ i, i < 36 → f i = g i) {c : Nat} (hc : c < 36) : blw f c = blw g c := by
  have e : low4 f c = low4 g c := by
    unfold low4
    have l0 := lowr_lt (h := g) (w := 0) hc (by omega) hc
    have l1 := lowr_lt (h := g) (w := 1) hc (by omega) l0
    have l2 := lowr_lt (h := g) (w := 2) hc (by omega) l1
    rw [lowr_congr h hc hc (by omega : 0 < 4), lowr_congr h hc l0 (by omega : 1 < 4), lowr_congr h hc l1 (by omega : 2 < 4), lowr_congr h hc l2 (by omega : 3 < 4)]
  unfold blw
  rw [e]
theorem IvN_of {p : Nat} {L : Lines} {M0 M : Mem} {s : St} (h0 : IvN p M0) (hC : CW (nowW p L M0) M) (hM : MW (nowW p L M0) M) (hs : okS p s) (hV : VS p 36 M s) (hVM : VM p M s) (h40 : ∀ q, p ≤ q → q < 8 → M.1 40 q = 0) : IvN p M := by
  obtain ⟨g1, g2, g3, g4, g5, g6, g7, g8, g9, g10⟩ := h0
  obtain ⟨c1, c2, c3, c4, c5, -⟩ := hC
  obtain ⟨m1, m2, m3, m4, -⟩ := hM
  refine ⟨g1, c1, m1, fun i hi => ⟨(m2 i hi).trans (c2 i hi).symm, ?_⟩, fun i hi => ⟨(hVM.1 i hi).trans (hV.1 i hi).symm, ?_⟩, fun i hi => ⟨(hVM.2.1 i hi).trans (hV.2.1 i hi).symm, ?_⟩, fun q hq => ⟨⟨(hVM.2.2.1 q hq).trans (hV.2.2.1 q hq).symm, ?_⟩, ⟨(m3 q hq).trans (c3 q hq).symm, ?_⟩, ⟨(m4 q hq).trans (c4 q hq).symm, ?_⟩, (hVM.2.2.2.1 q hq).trans (hV.2.2.2.1 q hq).symm, ?_⟩, h40, ⟨hVM.2.2.2.2.trans hV.2.2.2.2.symm, ?_⟩, fun c hc => (c5 c hc).trans ?_⟩
  · rw [c2 i hi]; exact (g4 i hi).2
  · have := hV.1 i hi
    rw [show M.1 37 i = s.1 i from this]; exact hs.1 i hi
  · have := hV.2.1 i hi
    rw [show M.1 38 i = s.2.1 i from this]; exact hs.2.1 i hi
  · have := hV.2.2.1 q hq
    rw [show M.1 39 q = s.2.2.1 q from this]; exact hs.2.2.1 q hq
  · rw [c3 q hq]; exact (g7 q hq).2.1.2
  · rw [c4 q hq]; exact (g7 q hq).2.2.1.2
  · have := hV.2.2.2.1 q hq
    rw [show M.1 40 q = s.2.2.2.1 q from this]; exact hs.2.2.2.1 q hq
  · have := hV.2.2.2.2
    rw [show M.1 36 4 = s.2.2.2.2 from this]; exact hs.2.2.2.2
  · exact blw_congr (fun i hi => (c2 i hi).symm) hc
theorem s_hour : Sim fSh_hour fMd_hour := by
  rintro M hI
  have hI0 := hI
  obtain ⟨p, n, hN, hT, hD, hIm, hC, hB, hS, hZ, hL⟩ := hI
  obtain ⟨L, w1, wh, w2, w3, w4, w5, w6⟩ := inv_wh hN hL
  have p8 := hN.1
  obtain ⟨M1, e1, K1, V1, z1, d1, r1, -⟩ := pass_c w1 w4 (b := 36) (by omega) w2 w5 (fun i hi => (hZ i hi).1)
  generalize eW : nowW p L M = W at *
  have eW1 : W.1 = p := by rw [← eW]; rfl
  have a0 : M1.1 34 = M.1 34 := K1.f (fun i h => by unfold PC PG at h; omega)
  generalize eD : drk W (nowS M) = D at *
  generalize eR : rnn W (nowS M) = R at *
  have kA : Kp (fun a _ => a = 34) M1 (wI (wI (wI M1 34 0 (M1.1 34 0 + 1)) 34 1 (M1.1 34 1 + D)) 34 2 (M1.1 34 2 + R)) := ((Kp.w _ _ (by omega)).tr (Kp.w _ _ (by omega))).tr (Kp.w _ _ (by omega))
  have eA : fSh_hour M = some (D, wI (wI (wI M1 34 0 (M1.1 34 0 + 1)) 34 1 (M1.1 34 1 + D)) 34 2 (M1.1 34 2 + R)) := by
    rw [fSh_hour, e1, Option.bind_some]
    simp only [rd5, st5, Option.bind_some, wI_1, upd_a]
    simp [d1, r1]
    rfl
  generalize eMA : wI (wI (wI M1 34 0 (M1.1 34 0 + 1)) 34 1 (M1.1 34 1 + D)) 34 2 (M1.1 34 2 + R) = MA at *
  have KA : Kp (fun a i => PC W.1 36 a i ∨ a = 34) M MA := (K1.mono (fun a i h => Or.inl h)).tr (kA.mono (fun a i h => Or.inr h))
  have CA : CW W MA := w2.kp KA (fun a i h => by unfold PC PG at h; omega)
  have MWA : MW W MA := w3.kp KA (fun a i h => by unfold PC PG at h; omega) (by omega)
  have VMA : VM W.1 MA (nowS M) := by rw [eW1]; exact w6.kp p8 KA (fun a i h => by unfold PC PG at h; omega)
  have VA : VS W.1 36 MA (stp W (nowS M)) := V1.kp kA (fun a i h => by omega)
  have w4' : okS W.1 (nowS M) := by rw [eW1]; exact w4
  obtain ⟨M2, e2, K2, V2, d2, r2⟩ := pass_m w1 w4' MWA VMA
  have kB : Kp (fun a _ => a = 82) M2 (wI (wI (wI M2 82 0 (M2.1 82 0 + 1)) 82 1 (M2.1 82 1 + D)) 82 2 (M2.1 82 2 + R)) := ((Kp.w _ _ (by omega)).tr (Kp.w _ _ (by omega))).tr (Kp.w _ _ (by omega))
  have eB : fMd_hour MA = some (D, wI (wI (wI M2 82 0 (M2.1 82 0 + 1)) 82 1 (M2.1 82 1 + D)) 82 2 (M2.1 82 2 + R)) := by
    rw [fMd_hour, e2, Option.bind_some]
    simp only [rd5, st5, Option.bind_some, wI_1, upd_a]
    simp [d2, r2, eD, eR]
    rfl
  have a82 : M2.1 82 = M.1 82 := by
    rw [K2.f (a := 82) (fun i h => by unfold PMd at h; omega), KA.f (a := 82) (fun i h => by unfold PC PG at h; omega)]
  have a34 : MA.1 34 = upd (upd (upd (M.1 34) 0 (M.1 34 0 + 1)) 1 (M.1 34 1 + D)) 2 (M.1 34 2 + R) := by
    rw [← eMA, ← a0]
    rfl
  generalize eMB : wI (wI (wI M2 82 0 (M2.1 82 0 + 1)) 82 1 (M2.1 82 1 + D)) 82 2 (M2.1 82 2 + R) = MB at *
  have K3 : Kp (fun a i => PMd a i ∨ a = 82) MA MB := (K2.mono (fun a i h => Or.inl h)).tr (kB.mono (fun a i h => Or.inr h))
  have CB : CW W MB := CA.kp K3 (fun a i h => by unfold PMd at h; omega)
  have MB' : MW W MB := MWA.kp K3 (fun a i h => by unfold PMd at h; omega) (by omega)
  have VB : VS W.1 36 MB (stp W (nowS M)) := VA.kp K3 (fun a i h => by unfold PMd at h; omega)
  have VMB : VM W.1 MB (stp W (nowS M)) := V2.kp (by omega) kB (fun a i h => by omega)
  have f : ∀ a i, ¬ PC W.1 36 a i → ¬ PMd a i → a ≠ 34 → a ≠ 82 → MB.1 a i = M.1 a i := fun a i x1 x2 x3 x4 => by
    rw [K3.1 a i (fun h => h.elim x2 x4), KA.1 a i (fun h => h.elim x1 x3)]
  have g : ∀ a, (a ≤ 6 ∨ (8 ≤ a ∧ a ≤ 10) ∨ (12 ≤ a ∧ a ≤ 33) ∨ a = 35 ∨ a = 38 ∨ a = 39 ∨ (42 ≤ a ∧ a ≤ 65) ∨ a = 67 ∨ a = 69 ∨ (71 ≤ a ∧ a ≤ 79) ∨ (83 ≤ a ∧ a ≤ 90)) → MB.1 a = M.1 a := fun a ha => funext fun i => f a i (by unfold PC PG; omega) (by unfold PMd; omega) (by omega) (by omega)
  have q : ∀ i, ¬ (i = 5 ∨ i = 40 ∨ i = 41) → MB.1 66 i = M.1 66 i := fun i hi => f 66 i (by unfold PC PG; omega) (by unfold PMd; omega) (by omega) (by omega)
  have e22 : MB.2 = M.2 := K3.2.trans KA.2
  have hN2 : IvN p MB := by
    refine IvN_of (L := L) hN (by rw [eW]; exact CB) (by rw [eW]; exact MB') (s := stp W (nowS M)) (by rw [← eW1]; exact stp_ok w1 w4') (by rw [← eW1]; exact VB) (by rw [← eW1]; exact VMB) (fun r h1 h2 => ?_)
    rw [f 40 r (by unfold PC PG; omega) (by unfold PMd; omega) (by omega) (by omega)]
    exact hN.2.2.2.2.2.2.2.1 r h1 h2
  refine ⟨D, MA, MB, eA, eB, p, n, hN2, hT.congr (f 7 0 (by unfold PC PG; omega) (by unfold PMd; omega) (by omega) (by omega)) (q 6 (by omega)) (g 8 (by omega)) (g 71 (by omega)), ?_, hIm.congr (congrFun (g 0 (by omega)) 10) (q 25 (by omega)) (q 26 (by omega)) (g 83 (by omega)) (g 61 (by omega)) (g 62 (by omega)) (g 63 (by omega)) (g 64 (by omega)) (congrFun (g 60 (by omega)) 4) (g 84 (by omega)) (g 35 (by omega)), hC.congr (congrFun (g 15 (by omega)) 4) (congrFun (g 15 (by omega)) 5) (q 30 (by omega)) (q 29 (by omega)) (g 85 (by omega)) (g 16 (by omega)) (g 17 (by omega)) (g 18 (by omega)) (g 19 (by omega)), hB.congr (congrFun (g 20 (by omega)) 0) (congrFun (g 20 (by omega)) 1) (q 32 (by omega)) (q 34 (by omega)) (g 86 (by omega)) (g 22 (by omega)) (g 87 (by omega)) (g 21 (by omega)), hS.congr (g 24 (by omega)) (g 25 (by omega)) (g 88 (by omega)) (g 89 (by omega)) (by rw [e22]), ?_, hL.congr (by rw [e22]) (f 7 6 (by unfold PC PG; omega) (by unfold PMd; omega) (by omega) (by omega)) (q 8 (by omega)) (q 9 (by omega)) (g 72 (by omega)) (g 73 (by omega)) (g 74 (by omega)) (g 75 (by omega)) (g 9 (by omega)) (g 10 (by omega))⟩
  · intro i hi
    have h34 : MB.1 34 = MA.1 34 := K3.f (fun i h => by unfold PMd at h; omega)
    have h82 : MB.1 82 = upd (upd (upd (M.1 82) 0 (M.1 82 0 + 1)) 1 (M.1 82 1 + D)) 2 (M.1 82 2 + R) := by
      rw [← eMB, ← a82]
      rfl
    rw [h34, a34, h82]
    simp only [upd_a]
    rw [hD 0 (by omega), hD 1 (by omega), hD 2 (by omega), hD i hi]
  · intro i hi
    have z41 : MB.1 41 i = 0 := by
      rw [K3.1 41 i (by unfold PMd; omega), kA.1 41 i (by omega)]
      exact z1 i hi
    refine ⟨z41, ?_⟩
    rw [g 47 (by omega), g 53 (by omega), g 59 (by omega)]
    exact (hZ i hi).2
