theorem mx_e (a b : Int32) : mxI a b = if a < b then b else a := rfl
theorem mn_e (a b : Int32) : mnI a b = if b < a then b else a := rfl
theorem par2 {i : Nat} (h : i < 2 ^ 31) : rmI (nI i) 2 = nI (i % 2) := by
  unfold rmI
  have e : (2 : Int32) = nI 2 := rfl
  rw [e, pk_rem h (by omega) (by omega)]
theorem par2_0 {i : Nat} (h : i < 2 ^ 31) : (rmI (nI i) 2 = 0) ↔ i % 2 = 0 := by
  rw [par2 h]
  exact eqR (b := 0) 0 rfl (by omega) (by omega)
theorem e6 (Y x : Nat) : (6 : Int32) * nI Y + nI x = nI (6 * Y + x) := by
  have : (6 : Int32) = nI 6 := rfl
  rw [this, nI_mul, nI_add]
theorem best_c {W : Wd} (hW : okW W) (hH : okH W) {M0 : Mem} {a b Y N t ea eb : Nat} (ha : a < W.1) (hb : b < W.1) (hea : ea < 36) (heb : eb < 36) (hY : Y < 6) (hN : N ≤ 3) (ht : t ≤ 100) : ∀ (r i n : Nat) (s : St) (M : Mem), r + i = N → r < n → okS W.1 s → s.2.2.1 a = nI ea → s.2.2.1 b = nI eb → TP W M0 a b Y N t s M → ∃ M1, (rec_fTurns_bestFrom n) M (nI i) = some (Gv W a b t Y r i s, M1) ∧ TP W M0 a b Y N t s M1 ∧ (i = 0 → 0 < r → M1.1 14 7 = nI (fx (Gv W a b t Y (r - 1) 1 s) (fun x => Gv W a b t Y (r - 1) 1 (tS s (6 * Y + x))) 6)) := by
  have p8 := hW.1
  intro r
  induction r with
  | zero =>
    intro i n s M e hn hs ca cb h
    obtain ⟨n, rfl⟩ : ∃ q, n = q + 1 := ⟨n - 1, by omega⟩
    obtain ⟨M1, e1, T1⟩ := diff_c hW hs ha hb ht h
    refine ⟨M1, ?_, T1, fun _ z => by omega⟩
    show fTurns_bestFrom_F (rec_fTurns_bestFrom n) M (nI i) = _
    have : nI N ≤ nI i := nI_le (by omega) (by omega)
    rw [fTurns_bestFrom_F, h.2.2.2.2.2.2.2.1, if_pos this, e1, Option.bind_some]
    rfl
  | succ r ih =>
    intro i n s M e hn hs ca cb h
    obtain ⟨n, rfl⟩ : ∃ q, n = q + 1 := ⟨n - 1, by omega⟩
    have hi3 : nI i < 3 := (ltR (b := 3) 3 rfl (by omega) (by omega)).mpr (by omega)
    have hnt : ¬ nI N ≤ nI i := nI_ge (by omega) (by omega)
    obtain ⟨M1, e1, T1, -⟩ := ih (i + 1) n s M (by omega) (by omega) hs ca cb h
    generalize ev0 : Gv W a b t Y r (i + 1) s = v0 at *
    generalize ef : (fun x => Gv W a b t Y r (i + 1) (tS s (6 * Y + x))) = f
    have hf : ∀ x, f x = Gv W a b t Y r (i + 1) (tS s (6 * Y + x)) := fun x => by rw [← ef]
    obtain ⟨R, eR, hR1, hR2⟩ := loop0 (σ := Mem × Int32 × Int32 × Int32) (fun k u => fTurns_bestFrom_L35 (rec_fTurns_bestFrom n) k u.1 (nI i) u.2.1 u.2.2.1 u.2.2.2) (fun x u => u.2.1 = fb i v0 f x ∧ (i = 0 → u.2.2.1 = nI (fx v0 f x)) ∧ u.2.2.2 = nI x ∧ TP W M0 a b Y N t s u.1) (fun R => R.2.1 = fb i v0 f 6 ∧ (i = 0 → R.2.2 = nI (fx v0 f 6)) ∧ TP W M0 a b Y N t s R.1) 6 (fu_lt (by omega)) (M1, v0, 6, 0) ⟨rfl, fun _ => rfl, rfl, T1⟩
      (fun k x u hx hP => by
        obtain ⟨u1, u2, u3, u4⟩ := u
        obtain ⟨q2, q3, q4, T⟩ := hP
        dsimp only at q2 q3 q4 T
        subst q2
        subst q4
        right
        have h6 : ¬ (6 : Int32) ≤ nI x := nI_geL (b := 6) 6 rfl hx (by omega)
        have hc : 6 * Y + x < 36 := by omega
        obtain ⟨v, em, hv⟩ := matt_c hH (by omega) (by omega) ha hb hc hea heb ca cb T
        have f4 : u1.1 14 4 = nI Y := T.2.2.2.2.2.2.1
        have hsh : u1.1 (48 + 2) (6 * Y + x) = s.2.1 (6 * Y + x) := T.2.2.2.1.2.1 _ hc
        have hsr := hs.2.1 _ hc
        rcases hv with hv | ⟨hv, n1, n2⟩
        · -- the shoe is turned, and turned back
          have set_ : ∀ (M' : Mem) (s' : St) (y : Int32), TP W M0 a b Y N t s' M' → TP W M0 a b Y N t (shoeS s' (6 * Y + x) y) (wI M' (48 + 2) (6 * Y + x) y) := fun M' s' y T' => by
            obtain ⟨h1, h2, h3, h4, h5, h6', h7, h8, h9⟩ := T'
            have K : Kp (fun a _ => a = 50) M' (wI M' (48 + 2) (6 * Y + x) y) := Kp.w _ _ rfl
            refine ⟨h1.tr (K.mono (fun a i z => by unfold PTc; omega)), h2.kp K (fun a i z => by omega), fun j hj => ?_, ⟨fun j hj => ?_, fun j hj => ?_, fun j hj => ?_, fun j hj => ?_, ?_⟩, ?_, ?_, ?_, ?_, ?_⟩
            · rw [K.1 _ _ (by omega), K.1 _ _ (by omega), K.1 _ _ (by omega)]; exact h3 j hj
            · rw [K.1 _ _ (by omega)]; exact h4.1 j hj
            · rw [wI_1, if_pos rfl, upd_a]
              show _ = upd s'.2.1 (6 * Y + x) y j
              rw [upd_a, h4.2.1 j hj]
            · rw [K.1 _ _ (by omega)]; exact h4.2.2.1 j hj
            · rw [K.1 _ _ (by omega)]; exact h4.2.2.2.1 j hj
            · rw [K.1 _ _ (by omega)]; exact h4.2.2.2.2
            · rw [K.1 _ _ (by omega)]; exact h5
            · rw [K.1 _ _ (by omega)]; exact h6'
            · rw [K.1 _ _ (by omega)]; exact h7
            · rw [K.1 _ _ (by omega)]; exact h8
            · rw [K.1 _ _ (by omega)]; exact h9
          have T2 : TP W M0 a b Y N t (tS s (6 * Y + x)) (wI u1 (48 + 2) (6 * Y + x) (rmI (s.2.1 (6 * Y + x) + 1) 3)) := set_ u1 s _ T
          obtain ⟨M3, e3, T3, -⟩ := ih (i + 1) n (tS s (6 * Y + x)) _ (by omega) (by omega) (shoe_ok hs _ (turn_rng hsr).1) ca cb T2
          rw [← hf x] at e3
          have T4' := set_ M3 (tS s (6 * Y + x)) (s.2.1 (6 * Y + x)) T3
          have T4 : TP W M0 a b Y N t s (wI M3 (48 + 2) (6 * Y + x) (s.2.1 (6 * Y + x))) := by
            obtain ⟨h1, h2, h3, h4, h5⟩ := T4'
            refine ⟨h1, h2, h3, ⟨h4.1, fun j hj => ?_, h4.2.2⟩, h5⟩
            rw [h4.2.1 j hj]
            show upd (upd s.2.1 (6 * Y + x) _) (6 * Y + x) (s.2.1 (6 * Y + x)) j = _
            rw [upd_upd, upd_a]
            by_cases z : j = 6 * Y + x
            · rw [if_pos z, z]
            · rw [if_neg z]
          have base : ∀ u3, fTurns_bestFrom_L35 (rec_fTurns_bestFrom n) (k + 1) u1 (nI i) (fb i v0 f x) u3 (nI x) = if ¬ rmI (nI i) 2 = 0 then (if fb i v0 f x ≤ f x then fTurns_bestFrom_L35 (rec_fTurns_bestFrom n) k (wI M3 (48 + 2) (6 * Y + x) (s.2.1 (6 * Y + x))) (nI i) (fb i v0 f x) u3 (nI (x + 1)) else fTurns_bestFrom_L35 (rec_fTurns_bestFrom n) k (wI M3 (48 + 2) (6 * Y + x) (s.2.1 (6 * Y + x))) (nI i) (f x) (nI x) (nI (x + 1))) else (if f x ≤ fb i v0 f x then fTurns_bestFrom_L35 (rec_fTurns_bestFrom n) k (wI M3 (48 + 2) (6 * Y + x) (s.2.1 (6 * Y + x))) (nI i) (fb i v0 f x) u3 (nI (x + 1)) else fTurns_bestFrom_L35 (rec_fTurns_bestFrom n) k (wI M3 (48 + 2) (6 * Y + x) (s.2.1 (6 * Y + x))) (nI i) (f x) (nI x) (nI (x + 1))) := fun u3 => by
            show fTurns_bestFrom_L35_F (rec_fTurns_bestFrom n) (fTurns_bestFrom_L35 (rec_fTurns_bestFrom n) k) u1 (nI i) (fb i v0 f x) u3 (nI x) = _
            rw [fTurns_bestFrom_L35_F, if_neg h6, f4, e6, em, Option.bind_some, if_neg hv, rdI_n hc (by omega), Option.bind_some, hsh, stI_n hc (by omega), Option.bind_some, nI_1, e3, Option.bind_some, stI_n hc (by omega), Option.bind_some, nI_1]
          clear e3 T2 T3 T4' set_
          generalize wI M3 (48 + 2) (6 * Y + x) (s.2.1 (6 * Y + x)) = M4 at base T4
          dsimp only
          rw [base]
          by_cases par : i % 2 = 0
          · have pz : ¬ ¬ rmI (nI i) 2 = 0 := fun z => z ((par2_0 (by omega)).mpr par)
            rw [if_neg pz]
            by_cases y : f x ≤ fb i v0 f x
            · rw [if_pos y]
              have ny : ¬ fb i v0 f x < f x := Int32.not_lt.mpr y
              refine ⟨(M4, fb i v0 f (x + 1), u3, nI (x + 1)), ⟨rfl, fun z => ?_, rfl, T4⟩, by rw [fb, if_pos par, if_neg ny]⟩
              dsimp only
              subst z
              rw [q3 rfl, fx, if_neg ny]
            · rw [if_neg y]
              have ny : fb i v0 f x < f x := Int32.not_le.mp y
              refine ⟨(M4, fb i v0 f (x + 1), nI x, nI (x + 1)), ⟨rfl, fun z => ?_, rfl, T4⟩, by rw [fb, if_pos par, if_pos ny]⟩
              dsimp only
              subst z
              rw [fx, if_pos ny]
          · have pz : ¬ rmI (nI i) 2 = 0 := fun z => par ((par2_0 (by omega)).mp z)
            have i0 : ¬ i = 0 := fun z => par (by rw [z])
            rw [if_pos pz]
            by_cases y : fb i v0 f x ≤ f x
            · rw [if_pos y]
              have ny : ¬ f x < fb i v0 f x := Int32.not_lt.mpr y
              exact ⟨(M4, fb i v0 f (x + 1), u3, nI (x + 1)), ⟨rfl, fun z => absurd z i0, rfl, T4⟩, by rw [fb, if_neg par, if_neg ny]⟩
            · rw [if_neg y]
              have ny : f x < fb i v0 f x := Int32.not_le.mp y
              exact ⟨(M4, fb i v0 f (x + 1), nI x, nI (x + 1)), ⟨rfl, fun z => absurd z i0, rfl, T4⟩, by rw [fb, if_neg par, if_pos ny]⟩
        · -- it matters nothing
          have es : f x = v0 := by
            rw [hf x, ← ev0]
            exact Gv_ind hW hH ha hb hea heb n1 n2 r (i + 1) s _ hs ca cb (turn_rng hsr).1 hc hY
          refine ⟨(u1, fb i v0 f (x + 1), u3, nI (x + 1)), ⟨rfl, fun z => ?_, rfl, T⟩, ?_⟩
          · dsimp only
            rw [q3 z, fx_same es]
          · show fTurns_bestFrom_L35_F (rec_fTurns_bestFrom n) (fTurns_bestFrom_L35 (rec_fTurns_bestFrom n) k) u1 (nI i) (fb i v0 f x) u3 (nI x) = _
            rw [fTurns_bestFrom_L35_F, if_neg h6, f4, e6, em, Option.bind_some, if_pos hv, nI_1, fb_same es])
      (fun k u hP => by
        obtain ⟨u1, u2, u3, u4⟩ := u
        obtain ⟨q2, q3, q4, T⟩ := hP
        dsimp only at q2 q3 q4 T
        subst q4
        refine ⟨(u1, u2, u3), ?_, q2, q3, T⟩
        show fTurns_bestFrom_L35_F (rec_fTurns_bestFrom n) (fTurns_bestFrom_L35 (rec_fTurns_bestFrom n) k) u1 (nI i) u2 u3 (nI 6) = _
        rw [fTurns_bestFrom_L35_F, if_pos (by decide)])
    obtain ⟨M2, r1, r2⟩ := R
    dsimp only at hR1 hR2
    subst hR1
    have eR' : fTurns_bestFrom_L35 (rec_fTurns_bestFrom n) FU M1 (nI i) v0 6 0 = some (M2, fb i v0 f 6, r2) := eR
    have hG : Gv W a b t Y (r + 1) i s = fb i v0 f 6 := by rw [Gv, ev0, ef]
    have base : (rec_fTurns_bestFrom (n + 1)) M (nI i) = if ¬ nI i = 0 then some (fb i v0 f 6, M2) else some (fb i v0 f 6, wI M2 14 7 r2) := by
      show fTurns_bestFrom_F (rec_fTurns_bestFrom n) M (nI i) = _
      rw [fTurns_bestFrom_F, h.2.2.2.2.2.2.2.1, if_neg hnt, if_pos hi3, nI_1, e1, Option.bind_some]
      dsimp only
      rw [eR', Option.bind_some]
    by_cases i0 : i = 0
    · refine ⟨wI M2 14 7 r2, ?_, hR2.2.kp (Kp.w (P := fun a i => a = 14 ∧ i = 7) _ _ (by omega)) (fun a i z => by unfold PTc; omega), fun _ _ => ?_⟩
      · have : ¬ ¬ nI i = 0 := fun z => z (by rw [i0]; rfl)
        rw [base, if_neg this, hG]
      · subst i0
        show r2 = _
        rw [hR2.1 rfl]
        have e1' : r + 1 - 1 = r := rfl
        rw [e1', ← ef, ← ev0]
    · have : ¬ nI i = 0 := nI_ne0 (by omega) (by omega)
      exact ⟨M2, by rw [base, if_pos this, hG], hR2.2, fun z => absurd z i0⟩
