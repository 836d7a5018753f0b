/-- the reference turns its own shoes -/
def MP (W : Wd) (M0 : Mem) (s : St) (M : Mem) : Prop := Kp PTm M0 M ∧ MW W M ∧ VM W.1 M s ∧ (∀ c, c < 36 → M.1 68 c = M0.1 68 c) ∧ (∀ i, i < 32 → M.1 70 i = M0.1 70 i) ∧ M.1 66 5 = M0.1 66 5
theorem MP.rest {W : Wd} (hW : okW W) {M0 M M1 : Mem} {s : St} (h : MP W M0 s M) (r : Rest M M1) : MP W M0 s M1 := by
  obtain ⟨h1, h2, h3, h4, h5, h6⟩ := h
  exact ⟨h1.tr r.1, h2.rest hW r, h3.rest hW.1 r, fun c hc => by rw [(r.2.1 c hc).1]; exact h4 c hc, fun i hi => by rw [r.2.2.1 i hi]; exact h5 i hi, by rw [r.2.2.2]; exact h6⟩
theorem MP.set {W : Wd} (hW : okW W) {M0 M : Mem} {s : St} (h : MP W M0 s M) (c : Nat) (x : Int32) : MP W M0 (shoeS s c x) (wI M 69 c x) := by
  obtain ⟨h1, h2, h3, h4, h5, h6⟩ := h
  have K : Kp (fun b _ => b = 69) M (wI M 69 c x) := Kp.w _ _ rfl
  refine ⟨h1.tr (K.mono (fun b i hb => by unfold PTm; omega)), h2.kp K (fun b i hb => by omega) hW.1, ⟨fun i hi => ?_, fun i hi => ?_, fun q hq => ?_, fun q hq => ?_, ?_⟩, fun i hi => ?_, fun i hi => ?_, ?_⟩
  · rw [K.1 _ _ (by omega)]; exact h3.1 i hi
  · rw [wI_1, if_pos rfl, upd_a]
    show _ = upd s.2.1 c x i
    rw [upd_a, h3.2.1 i hi]
  · rw [K.1 _ _ (by omega)]; exact h3.2.2.1 q hq
  · rw [K.1 _ _ (by omega)]; exact h3.2.2.2.1 q hq
  · rw [K.1 _ _ (by omega)]; exact h3.2.2.2.2
  · rw [K.1 _ _ (by omega)]; exact h4 i hi
  · rw [K.1 _ _ (by omega)]; exact h5 i hi
  · rw [K.1 _ _ (by omega)]; exact h6
theorem turns_m {W : Wd} (hW : okW W) {M0 M : Mem} {s : St} (h : MP W M0 s M) {c : Nat} (hc : c < 36) (y : Int32) : fMd_turns M (nI c) y = some (wI M 69 c (rmI (s.2.1 c + y) 3)) ∧ MP W M0 (shoeS s c (rmI (s.2.1 c + y) 3)) (wI M 69 c (rmI (s.2.1 c + y) 3)) := by
  refine ⟨?_, h.set hW c _⟩
  rw [fMd_turns, rdI_n hc (by omega), Option.bind_some, h.2.2.1.2.1 c hc, stI_n hc (by omega), Option.bind_some]
theorem MP.back {W : Wd} {M0 M : Mem} {s : St} {c : Nat} (x : Int32) (h : MP W M0 (shoeS (shoeS s c x) c (s.2.1 c)) M) : MP W M0 s M := by
  obtain ⟨h1, h2, h3, h4⟩ := h
  refine ⟨h1, h2, ⟨h3.1, fun j hj => ?_, h3.2.2⟩, h4⟩
  rw [h3.2.1 j hj]
  show upd (upd s.2.1 c x) c (s.2.1 c) j = _
  rw [upd_upd, upd_a]
  by_cases z : j = c
  · rw [if_pos z, z]
  · rw [if_neg z]
theorem more_m {W : Wd} (hW : okW W) {M0 M : Mem} {s : St} (hs : okS W.1 s) (h : MP W M0 s M) {a b t : Nat} (ha : a < W.1) (hb : b < W.1) (ht : t ≤ 100) (ab ynt : Int32) (e1 : ab / 10 = nI a) (e2 : rmI ab 10 = nI b) (e3 : rmI ynt 10 = nI t) : ∃ M1, fMd_more M ab ynt = some (Dv W a b t s, M1) ∧ MP W M0 s M1 := by
  obtain ⟨M1, b1, t1, -⟩ := keep_m hW h.2.1 h.2.2.1 (Rest.rf M) 92 (by omega)
  obtain ⟨M2, b2, t2⟩ := t1.goes hW (by omega) hs t (by omega)
  obtain ⟨M3, b3, r3, -⟩ := t2.lays (by omega)
  refine ⟨M3, ?_, h.rest hW r3⟩
  rw [fMd_more, b1, Option.bind_some, e3, b2, Option.bind_some, e1, has_m t2 hW.1 ha, Option.bind_some, e2, has_m t2 hW.1 hb, Option.bind_some, b3, Option.bind_some, Dv]
theorem from_m {W : Wd} (hW : okW W) {M0 : Mem} {a b Y N t : Nat} (ha : a < W.1) (hb : b < W.1) (hY : Y < 6) (hN : N ≤ 3) (ht : t ≤ 100) (ab ynt : Int32) (e1 : ab / 10 = nI a) (e2 : rmI ab 10 = nI b) (e3 : rmI ynt 10 = nI t) (e4 : ynt / 100 = nI Y) (e5 : rmI (ynt / 10) 10 = nI N) : ∀ (r i n : Nat) (s : St) (M : Mem), r + i = N → r < n → okS W.1 s → MP W M0 s M → ∃ M1, (rec_fMd_turnFrom n) M (nI i) ab ynt = some (Gv W a b t Y r i s, M1) ∧ MP W M0 s M1 := by
  intro r
  induction r with
  | zero =>
    intro i n s M e hn hs h
    obtain ⟨n, rfl⟩ : ∃ q, n = q + 1 := ⟨n - 1, by omega⟩
    obtain ⟨M1, b1, T1⟩ := more_m hW hs h ha hb ht ab ynt e1 e2 e3
    refine ⟨M1, ?_, T1⟩
    show fMd_turnFrom_F (rec_fMd_turnFrom n) M (nI i) ab ynt = _
    have h1 : i = N := by omega
    have : nI i = nI N := by rw [h1]
    rw [fMd_turnFrom_F, e5, if_neg (fun z => z this), b1, Option.bind_some, Gv]
  | succ r ih =>
    intro i n s M e hn hs h
    obtain ⟨n, rfl⟩ : ∃ q, n = q + 1 := ⟨n - 1, by omega⟩
    have hni : ¬ nI i = nI N := fun z => by have := (nI_eq (by omega) (by omega)).mp z; omega
    obtain ⟨M1, b1, T1⟩ := ih (i + 1) n s M (by omega) (by omega) hs h
    generalize ev0 : Gv W a b t Y r (i + 1) s = v0 at *
    generalize ef : (fun x => Gv W a b t Y r (i + 1) (tS s (6 * Y + x))) = f
    have hf : ∀ x, f x = Gv W a b t Y r (i + 1) (tS s (6 * Y + x)) := fun x => by rw [← ef]
    obtain ⟨R, eR, hR1, hR2⟩ := loop0 (σ := Mem × Int32 × Int32) (fun k u => fMd_turnFrom_L32 (rec_fMd_turnFrom n) k u.1 (nI i) ab ynt u.2.1 u.2.2) (fun x u => u.2 = (fb i v0 f x, nI x) ∧ MP W M0 s u.1) (fun R => R.2 = fb i v0 f 6 ∧ MP W M0 s R.1) 6 (fu_lt (by omega)) (M1, v0, 0) ⟨rfl, T1⟩
      (fun k x u hx hP => by
        obtain ⟨u1, u2⟩ := u
        obtain ⟨q2, T⟩ := hP
        dsimp only at q2 T
        subst q2
        right
        have h6 : ¬ (6 : Int32) ≤ nI x := nI_geL (b := 6) 6 rfl hx (by omega)
        have hc : 6 * Y + x < 36 := by omega
        have hsr := hs.2.1 _ hc
        obtain ⟨c1, T2⟩ := turns_m hW T hc 1
        obtain ⟨M3, b3, T3⟩ := ih (i + 1) n (tS s (6 * Y + x)) _ (by omega) (by omega) (shoe_ok hs _ (turn_rng hsr).1) T2
        rw [← hf x] at b3
        obtain ⟨c3, T4⟩ := turns_m hW T3 hc 2
        have esh : (tS s (6 * Y + x)).2.1 (6 * Y + x) = rmI (s.2.1 (6 * Y + x) + 1) 3 := by
          show upd s.2.1 (6 * Y + x) _ (6 * Y + x) = _
          rw [upd_a, if_pos rfl]
        rw [esh, (turn_rng hsr).2] at c3 T4
        have T5 := MP.back _ T4
        generalize wI M3 69 (6 * Y + x) (s.2.1 (6 * Y + x)) = M4 at c3 T5
        refine ⟨(M4, fb i v0 f (x + 1), nI (x + 1)), ⟨rfl, T5⟩, ?_⟩
        show fMd_turnFrom_L32_F (rec_fMd_turnFrom n) (fMd_turnFrom_L32 (rec_fMd_turnFrom n) k) u1 (nI i) ab ynt (fb i v0 f x) (nI x) = _
        rw [fMd_turnFrom_L32_F, if_neg h6, e4, e6, c1, Option.bind_some, nI_1, b3, Option.bind_some]
        dsimp only
        rw [c3, Option.bind_some, nI_1, fb]
        by_cases par : i % 2 = 0
        · have pz : ¬ ¬ rmI (nI i) 2 = 0 := fun z => z ((par2_0 (by omega)).mpr par)
          rw [if_neg pz, if_pos par, mx_e]
        · have pz : ¬ rmI (nI i) 2 = 0 := fun z => par ((par2_0 (by omega)).mp z)
          rw [if_pos pz, if_neg par, mn_e])
      (fun k u hP => by
        obtain ⟨u1, u2⟩ := u
        obtain ⟨q2, T⟩ := hP
        dsimp only at q2 T
        subst q2
        refine ⟨(u1, fb i v0 f 6), ?_, rfl, T⟩
        show fMd_turnFrom_L32_F (rec_fMd_turnFrom n) (fMd_turnFrom_L32 (rec_fMd_turnFrom n) k) u1 (nI i) ab ynt (fb i v0 f 6) (nI 6) = _
        rw [fMd_turnFrom_L32_F, if_pos (by decide)])
    obtain ⟨M2, r1⟩ := R
    dsimp only at hR1 hR2
    subst hR1
    have eR' : fMd_turnFrom_L32 (rec_fMd_turnFrom n) FU M1 (nI i) ab ynt v0 0 = some (M2, fb i v0 f 6) := eR
    refine ⟨M2, ?_, hR2⟩
    show fMd_turnFrom_F (rec_fMd_turnFrom n) M (nI i) ab ynt = _
    rw [fMd_turnFrom_F, e5, if_pos hni, nI_1, b1, Option.bind_some]
    dsimp only
    rw [eR', Option.bind_some, Gv, ev0, ef]
