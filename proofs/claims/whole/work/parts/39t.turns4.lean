theorem dm_n {j : Nat} (hj : j < 2 ^ 31) (k : Nat) (hk : 0 < k) (hk2 : k < 2 ^ 31) : nI j / nI k = nI (j / k) ∧ rmI (nI j) (nI k) = nI (j % k) := by
  refine ⟨pk_div hj hk hk2, ?_⟩
  unfold rmI
  exact pk_rem hj hk hk2
theorem s_byTurns (x y z : Int32) : Sim (fun M => fSh_byTurns M x y z) (fun M => fMd_byTurns M x y z) := by
  rintro M hI
  have o1 : ¬ (1 : Int32) = 0 := by decide
  have hI0 := hI
  obtain ⟨p, n, hN, hT, hD, hIm, hC, hB, hS, hZ, hL⟩ := hI
  obtain ⟨L, w1, wh, w2, w3, w4, w5, w6⟩ := inv_wh hN hL
  have hz0 : Zr M := fun i hi => (hZ i hi).2
  have p8 := hN.1
  have gC : ∀ v, fWorld_isPerson M v = pers p v := fun v => pers_c w2 v
  have gM : ∀ v, fMd_isOne M v = pers p v := fun v => pers_m w1 w3 v
  by_cases hx : x < 0
  · exact ⟨-2000000000, M, M, by simp [fSh_byTurns, hx], by simp [fMd_byTurns, hx], hI0⟩
  rcases pers_cases p p8 (x / 10) with g | ⟨a, ha, ea, g⟩
  · exact ⟨-2000000000, M, M, by simp [fSh_byTurns, hx, gC, g], by simp [fMd_byTurns, hx, gM, g], hI0⟩
  rcases pers_cases p p8 (rmI x 10) with g' | ⟨b, hb, eb, g'⟩
  · exact ⟨-2000000000, M, M, by simp [fSh_byTurns, hx, gC, g, g'], by simp [fMd_byTurns, hx, gM, g, g'], hI0⟩
  by_cases hab : x / 10 = rmI x 10
  · refine ⟨-2000000000, M, M, ?_, ?_, hI0⟩
    · show fSh_byTurns M x y z = _
      rw [fSh_byTurns, if_neg hx, gC, g, if_neg o1, gC, g', if_neg o1, if_neg (fun w => w hab)]
    · show fMd_byTurns M x y z = _
      rw [fMd_byTurns, if_neg hx, gM, g, if_neg o1, gM, g', if_neg o1, if_neg (fun w => w hab)]
  have bC : fSh_byTurns M x y z = if y < 0 then some ((-2000000000), M) else if 6 ≤ (y / 100) then some ((-2000000000), M) else if (rmI (y / 10) 10) < 1 then some ((-2000000000), M) else if 3 < (rmI (y / 10) 10) then some ((-2000000000), M) else if 6 < (rmI y 10) then some ((-2000000000), M) else if z < 0 then some ((-2000000000), M) else if z ≤ 1 then Option.bind (fTurns_play M (x / 10) (rmI x 10) (y / 100) (rmI (y / 10) 10) (rmI y 10)) fun q14 => if ¬ z = 0 then some (q14.2.1 14 7, q14.2) else some (q14.1, q14.2) else some ((-2000000000), M) := by
    rw [fSh_byTurns, if_neg hx, gC, g, if_neg o1, gC, g', if_neg o1, if_pos hab]
  have bM : ∀ M1, MW (nowW p L M) M1 → fMd_byTurns M1 x y z = if y < 0 then some ((-2000000000), M1) else if 6 ≤ (y / 100) then some ((-2000000000), M1) else if (fMd_within (rmI (y / 10) 10) 1 3) = 0 then some ((-2000000000), M1) else if 6 < (rmI y 10) then some ((-2000000000), M1) else if ¬ (fMd_within z 0 1) = 0 then Option.bind (fMd_turnFrom M1 1 x y) fun q14 => Option.bind (fMd_byTurns_L107 FU q14.2 x y q14.1 6 0) fun o22 => if ¬ z = 0 then some (o22.2.2, o22.1) else some (o22.2.1, o22.1) else some ((-2000000000), M1) := fun M1 hM => by
    have gM1 : ∀ v, fMd_isOne M1 v = pers p v := fun v => pers_m w1 hM v
    rw [fMd_byTurns, if_neg hx, gM1, g, if_neg o1, gM1, g', if_neg o1, if_pos hab]
  by_cases hy : y < 0
  · exact ⟨-2000000000, M, M, by dsimp only; rw [bC, if_pos hy], by dsimp only; rw [bM M w3, if_pos hy], hI0⟩
  obtain ⟨j, hj, rfl⟩ := nI_of hy
  have e10 : (10 : Int32) = nI 10 := rfl
  have e100 : (100 : Int32) = nI 100 := rfl
  have d1 : nI j / 100 = nI (j / 100) := by rw [e100]; exact (dm_n hj 100 (by omega) (by omega)).1
  have d2 : nI j / 10 = nI (j / 10) := by rw [e10]; exact (dm_n hj 10 (by omega) (by omega)).1
  have d3 : rmI (nI (j / 10)) 10 = nI (j / 10 % 10) := by rw [e10]; exact (dm_n (by omega) 10 (by omega) (by omega)).2
  have d4 : rmI (nI j) 10 = nI (j % 10) := by rw [e10]; exact (dm_n hj 10 (by omega) (by omega)).2
  by_cases hY : 6 ≤ nI j / 100
  · exact ⟨-2000000000, M, M, by dsimp only; rw [bC, if_neg hy, if_pos hY], by dsimp only; rw [bM M w3, if_neg hy, if_pos hY], hI0⟩
  have hY6 : j / 100 < 6 := by
    rw [d1] at hY
    rcases Nat.lt_or_ge (j / 100) 6 with q | q
    · exact q
    · exact absurd ((leL (b := 6) 6 rfl (by omega) (by omega)).mpr q) hY
  by_cases hn : rmI (nI j / 10) 10 < 1 ∨ 3 < rmI (nI j / 10) 10
  · refine ⟨-2000000000, M, M, ?_, ?_, hI0⟩
    · dsimp only
      rw [bC, if_neg hy, if_neg hY]
      by_cases q : rmI (nI j / 10) 10 < 1
      · rw [if_pos q]
      · rw [if_neg q, if_pos (hn.resolve_left q)]
    · have : fMd_within (rmI (nI j / 10) 10) 1 3 = 0 := by unfold fMd_within; grind
      dsimp only
      rw [bM M w3, if_neg hy, if_neg hY, if_pos this]
  obtain ⟨n1, n2, n3⟩ : ¬ rmI (nI j / 10) 10 < 1 ∧ ¬ 3 < rmI (nI j / 10) 10 ∧ fMd_within (rmI (nI j / 10) 10) 1 3 = 1 := by unfold fMd_within; grind
  have hN3 : 1 ≤ j / 10 % 10 ∧ j / 10 % 10 ≤ 3 := by
    rw [d2, d3] at n1 n2
    constructor
    · rcases Nat.lt_or_ge (j / 10 % 10) 1 with q | q
      · exact absurd ((ltR (b := 1) 1 rfl (by omega) (by omega)).mpr q) n1
      · exact q
    · rcases Nat.lt_or_ge 3 (j / 10 % 10) with q | q
      · exact absurd ((ltL (b := 3) 3 rfl (by omega) (by omega)).mpr q) n2
      · exact q
  by_cases ht : 6 < rmI (nI j) 10
  · exact ⟨-2000000000, M, M, by dsimp only; rw [bC, if_neg hy, if_neg hY, if_neg n1, if_neg n2, if_pos ht], by dsimp only; rw [bM M w3, if_neg hy, if_neg hY, n3, if_neg o1, if_pos ht], hI0⟩
  rcases two_cases z with ⟨hz, w⟩ | hzz
  · refine ⟨-2000000000, M, M, ?_, by dsimp only; rw [bM M w3, if_neg hy, if_neg hY, n3, if_neg o1, if_neg ht, w, if_neg (fun v => v rfl)], hI0⟩
    dsimp only
    rw [bC, if_neg hy, if_neg hY, if_neg n1, if_neg n2, if_neg ht]
    by_cases q : z < 0
    · rw [if_pos q]
    · rw [if_neg q, if_neg (hz.resolve_left q)]
  have z0 : ¬ z < 0 := by rcases hzz with ⟨rfl, -⟩ | ⟨rfl, -⟩ <;> decide
  have z1 : z ≤ 1 := by rcases hzz with ⟨rfl, -⟩ | ⟨rfl, -⟩ <;> decide
  have w : fMd_within z 0 1 = 1 := by rcases hzz with ⟨-, w⟩ | ⟨-, w⟩ <;> exact w
  rw [if_neg hy, if_neg hY, if_neg n1, if_neg n2, if_neg ht, if_neg z0, if_pos z1] at bC
  have t9 : j % 10 < 10 := Nat.mod_lt _ (by omega)
  generalize eY : j / 100 = Y at *
  generalize eN : j / 10 % 10 = N at *
  generalize et : j % 10 = t at *
  -- the class
  have Kf : Kp PTc M (wI (wI (wI (wI (wI M 14 2 (nI a)) 14 3 (nI b)) 14 4 (nI Y)) 14 5 (nI N)) 14 6 (nI t)) := ((((Kp.w M _ (by unfold PTc; omega)).tr (Kp.w _ _ (by unfold PTc; omega))).tr (Kp.w _ _ (by unfold PTc; omega))).tr (Kp.w _ _ (by unfold PTc; omega))).tr (Kp.w _ _ (by unfold PTc; omega))
  have Cf : CW (nowW p L M) (wI (wI (wI (wI (wI M 14 2 (nI a)) 14 3 (nI b)) 14 4 (nI Y)) 14 5 (nI N)) 14 6 (nI t)) := w2.kp Kf (fun a i h => by unfold PTc PG at h; omega)
  obtain ⟨M1, b1, K1, V1, -⟩ := become_c (b0 := 48) (b1 := 36) p8 (by omega) (M := wI (wI (wI (wI (wI M 14 2 (nI a)) 14 3 (nI b)) 14 4 (nI Y)) 14 5 (nI N)) 14 6 (nI t)) (s := nowS M) w5
  have T1 : TP (nowW p L M) M a b Y N t (nowS M) M1 := by
    refine ⟨Kf.tr (K1.mono (fun a i h => by unfold PB at h; unfold PTc; omega)), Cf.kp K1 (fun a i h => by unfold PB at h; omega), fun i hi => ?_, V1, ?_, ?_, ?_, ?_, ?_⟩
    · rw [K1.1 _ _ (by unfold PB; omega), K1.1 _ _ (by unfold PB; omega), K1.1 _ _ (by unfold PB; omega)]
      exact hz0 i hi
    · rw [K1.1 _ _ (by unfold PB; omega)]; rfl
    · rw [K1.1 _ _ (by unfold PB; omega)]; rfl
    · rw [K1.1 _ _ (by unfold PB; omega)]; rfl
    · rw [K1.1 _ _ (by unfold PB; omega)]; rfl
    · rw [K1.1 _ _ (by unfold PB; omega)]; rfl
  obtain ⟨ea', hea, cea⟩ := w4.2.2.1 a ha
  obtain ⟨eb', heb, ceb⟩ := w4.2.2.1 b hb
  obtain ⟨r, hr⟩ : ∃ r, N = r + 1 := ⟨N - 1, by omega⟩
  obtain ⟨M2, c1, T2, c2⟩ := best_c w1 wh (M0 := M) (t := t) ha hb hea heb hY6 hN3.2 (by omega) N 0 100 (nowS M) M1 (by omega) (by omega) w4 cea ceb T1
  have c2' := c2 rfl (by omega)
  generalize ev0 : Gv (nowW p L M) a b t Y (N - 1) 1 (nowS M) = v0 at *
  generalize ef : (fun x => Gv (nowW p L M) a b t Y (N - 1) 1 (tS (nowS M) (6 * Y + x))) = f at *
  have hf : ∀ x, f x = Gv (nowW p L M) a b t Y (N - 1) 1 (tS (nowS M) (6 * Y + x)) := fun x => by rw [← ef]
  have hG : Gv (nowW p L M) a b t Y N 0 (nowS M) = fb 0 v0 f 6 := by
    have eN1 : N - 1 = r := by omega
    rw [eN1] at ev0 ef
    rw [hr, Gv, ← ev0, ← ef]
  have play : fTurns_play M (x / 10) (rmI x 10) (nI j / 100) (rmI (nI j / 10) 10) (rmI (nI j) 10) = some (fb 0 v0 f 6, M2) := by
    have c1' : fTurns_bestFrom M1 0 = some (Gv (nowW p L M) a b t Y N 0 (nowS M), M2) := c1
    have p24 : (wI (wI (wI (wI (wI M 14 2 (nI a)) 14 3 (nI b)) 14 4 (nI Y)) 14 5 (nI N)) 14 6 (nI t)).1 2 4 = nI p := hN.2.1
    rw [fTurns_play, ea, eb, d1, d2, d3, d4, p24, b1, Option.bind_some, c1', Option.bind_some, hG]
  -- the reference
  have C2 : MW (nowW p L M) M2 := w3.kp T2.1 (fun a i h => by unfold PTc PG at h; omega) w1.1
  have V2 : VM p M2 (nowS M) := w6.kp w1.1 T2.1 (fun a i h => by unfold PTc PG at h; omega)
  have P2 : MP (nowW p L M) M2 (nowS M) M2 := ⟨Kp.rf _ _, C2, V2, fun _ _ => rfl, fun _ _ => rfl, rfl⟩
  have d3' : rmI (nI j / 10) 10 = nI N := by rw [d2, d3]
  obtain ⟨M3, f1, P3⟩ := from_m w1 (M0 := M2) (Y := Y) (t := t) ha hb hY6 hN3.2 (by omega) x (nI j) ea eb d4 d1 d3' (N - 1) 1 100 (nowS M) M2 (by omega) (by omega) w4 P2
  rw [ev0] at f1
  obtain ⟨R, eR, hR1, hR2⟩ := loop0 (σ := Mem × Int32 × Int32 × Int32) (fun k u => fMd_byTurns_L107 k u.1 x (nI j) u.2.1 u.2.2.1 u.2.2.2) (fun i u => u.2 = (fb 0 v0 f i, nI (fx v0 f i), nI i) ∧ MP (nowW p L M) M2 (nowS M) u.1) (fun R => R.2 = (fb 0 v0 f 6, nI (fx v0 f 6)) ∧ MP (nowW p L M) M2 (nowS M) R.1) 6 (fu_lt (by omega)) (M3, v0, 6, 0) ⟨rfl, P3⟩
    (fun k i u hi hP => by
      obtain ⟨u1, u2⟩ := u
      obtain ⟨q2, T⟩ := hP
      dsimp only at q2 T
      subst q2
      right
      have h6 : ¬ (6 : Int32) ≤ nI i := nI_geL (b := 6) 6 rfl hi (by omega)
      have hc : 6 * Y + i < 36 := by omega
      have hsr := w4.2.1 _ hc
      obtain ⟨c1, T2⟩ := turns_m w1 T hc 1
      obtain ⟨M4, b3, T3⟩ := from_m w1 (M0 := M2) (Y := Y) (t := t) ha hb hY6 hN3.2 (by omega) x (nI j) ea eb d4 d1 d3' (N - 1) 1 100 (tS (nowS M) (6 * Y + i)) _ (by omega) (by omega) (shoe_ok w4 _ (turn_rng hsr).1) T2
      rw [← hf i] at b3
      have b3' : fMd_turnFrom (wI u1 69 (6 * Y + i) (rmI ((nowS M).2.1 (6 * Y + i) + 1) 3)) 1 x (nI j) = some (f i, M4) := b3
      obtain ⟨c3, T4⟩ := turns_m w1 T3 hc 2
      have esh : (tS (nowS M) (6 * Y + i)).2.1 (6 * Y + i) = rmI ((nowS M).2.1 (6 * Y + i) + 1) 3 := by
        show upd (nowS M).2.1 (6 * Y + i) _ (6 * Y + i) = _
        rw [upd_a, if_pos rfl]
      rw [esh, (turn_rng hsr).2] at c3 T4
      have T5 := MP.back _ T4
      generalize wI M4 69 (6 * Y + i) ((nowS M).2.1 (6 * Y + i)) = M5 at c3 T5
      have base : fMd_byTurns_L107 (k + 1) u1 x (nI j) (fb 0 v0 f i) (nI (fx v0 f i)) (nI i) = if fb 0 v0 f i < f i then fMd_byTurns_L107 k M5 x (nI j) (f i) (nI i) (nI (i + 1)) else fMd_byTurns_L107 k M5 x (nI j) (fb 0 v0 f i) (nI (fx v0 f i)) (nI (i + 1)) := by
        show fMd_byTurns_L107_F (fMd_byTurns_L107 k) u1 x (nI j) (fb 0 v0 f i) (nI (fx v0 f i)) (nI i) = _
        rw [fMd_byTurns_L107_F, if_neg h6, d1, e6, c1, Option.bind_some, b3', Option.bind_some]
        dsimp only
        rw [c3, Option.bind_some, nI_1]
      have zz : 0 % 2 = 0 := rfl
      refine ⟨(M5, fb 0 v0 f (i + 1), nI (fx v0 f (i + 1)), nI (i + 1)), ⟨rfl, T5⟩, ?_⟩
      dsimp only
      rw [base, fb, fx, if_pos zz]
      by_cases q : fb 0 v0 f i < f i
      · rw [if_pos q, if_pos q, if_pos q]
      · rw [if_neg q, if_neg q, if_neg q])
    (fun k u hP => by
      obtain ⟨u1, u2⟩ := u
      obtain ⟨q2, T⟩ := hP
      dsimp only at q2 T
      subst q2
      refine ⟨(u1, fb 0 v0 f 6, nI (fx v0 f 6)), ?_, rfl, T⟩
      show fMd_byTurns_L107_F (fMd_byTurns_L107 k) u1 x (nI j) _ _ (nI 6) = _
      rw [fMd_byTurns_L107_F, if_pos (by decide)])
  obtain ⟨M6, r6⟩ := R
  dsimp only at hR1 hR2
  subst hR1
  have eR' : fMd_byTurns_L107 FU M3 x (nI j) v0 6 0 = some (M6, fb 0 v0 f 6, nI (fx v0 f 6)) := eR
  have rst : Rest M2 M6 := by
    obtain ⟨h1, h2, h3, h4, h5, h6⟩ := hR2
    exact ⟨h1, fun c hc => ⟨h4 c hc, (h3.2.1 c hc).trans (V2.2.1 c hc).symm⟩, h5, h6⟩
  have f1' : fMd_turnFrom M2 1 x (nI j) = some (v0, M3) := f1
  have bM' := bM M2 C2
  rw [if_neg hy, if_neg hY, n3, if_neg o1, if_neg ht, w, if_pos o1, f1', Option.bind_some] at bM'
  dsimp only at bM'
  rw [eR', Option.bind_some] at bM'
  rw [play, Option.bind_some] at bC
  refine ⟨if ¬ z = 0 then nI (fx v0 f 6) else fb 0 v0 f 6, M2, M6, ?_, ?_, think_inv hI0 T2.1 T2.2.2.1 rst⟩
  · dsimp only
    rw [bC]
    dsimp only
    rw [c2']
    by_cases q : z = 0
    · rw [if_neg (fun v => v q), if_neg (fun v => v q)]
    · rw [if_pos q, if_pos q]
  · dsimp only
    rw [bM']
    by_cases q : z = 0
    · rw [if_neg (fun v => v q), if_neg (fun v => v q)]
    · rw [if_pos q, if_pos q]
