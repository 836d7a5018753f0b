/-! undo, redo, mend -/
theorem wI_comm (M : Mem) (a b i j : Nat) (x y : Int32) (h : a ≠ b) : wI (wI M a i x) b j y = wI (wI M b j y) a i x := by
  refine Prod.ext (funext fun c => ?_) rfl
  by_cases q : c = a
  · subst q; simp [wI, upA, h, Ne.symm h]
  · by_cases r : c = b
    · subst r; simp [wI, upA, h, Ne.symm h]
    · simp [wI, upA, q, r]
theorem wI_upA_comm (M : Mem) (a b j : Nat) (f : Nat → Int32) (y : Int32) (h : a ≠ b) : wI (upA M a f) b j y = upA (wI M b j y) a f := by
  refine Prod.ext (funext fun c => ?_) rfl
  by_cases q : c = a
  · subst q; simp [wI, upA, h, Ne.symm h]
  · by_cases r : c = b
    · subst r; simp [wI, upA, h, Ne.symm h]
    · simp [wI, upA, q, r]
theorem Tl.fr {M M1 : Mem} {k j : Nat} {v : Int32} (h : Tl M M1 k j v) (i : Nat) (x : Int32) : Tl (wI M 66 i x) (wI M1 66 i x) k j v := by
  rcases h with ⟨h, g, rfl, hg⟩ | ⟨h, rfl⟩ | ⟨h, rfl⟩ | ⟨h, rfl⟩ | ⟨h, rfl⟩ | ⟨h, rfl⟩ | ⟨h, rfl⟩ | ⟨h, rfl⟩
  · refine Or.inl ⟨h, g, ?_, hg⟩
    rw [wI_upA_comm _ _ _ _ _ _ (by decide), wI_comm _ _ _ _ _ _ _ (by decide)]
  · exact Or.inr (Or.inl ⟨h, wI_comm _ _ _ _ _ _ _ (by decide)⟩)
  · exact Or.inr (Or.inr (Or.inl ⟨h, wI_comm _ _ _ _ _ _ _ (by decide)⟩))
  · exact Or.inr (Or.inr (Or.inr (Or.inl ⟨h, wI_comm _ _ _ _ _ _ _ (by decide)⟩)))
  · exact Or.inr (Or.inr (Or.inr (Or.inr (Or.inl ⟨h, wI_comm _ _ _ _ _ _ _ (by decide)⟩))))
  · exact Or.inr (Or.inr (Or.inr (Or.inr (Or.inr (Or.inl ⟨h, wI_comm _ _ _ _ _ _ _ (by decide)⟩)))))
  · exact Or.inr (Or.inr (Or.inr (Or.inr (Or.inr (Or.inr (Or.inl ⟨h, wI_comm _ _ _ _ _ _ _ (by decide)⟩))))))
  · exact Or.inr (Or.inr (Or.inr (Or.inr (Or.inr (Or.inr (Or.inr ⟨h, wI_comm _ _ _ _ _ _ _ (by decide)⟩))))))
theorem nI_mul4 (k : Nat) : 4 * nI k = nI (4 * k) := by
  have : (4 : Int32) = nI 4 := rfl
  rw [this]
  exact (Int32.ofNat_mul 4 k).symm
theorem ix_n {n : Nat} (h : n < 2 ^ 31) : ix (nI n) = n := nI_clamp h
theorem Keep.i66 {S T : List Nat} {M M1 : Mem} (h : Keep S T M M1) (i : Nat) (hi : T.contains i = false) : M1.1 66 i = M.1 66 i := h.2.1 i hi
theorem Keep.c {S T : List Nat} {M M1 : Mem} (h : Keep S T M M1) (a : Nat) (ha : S.contains a = false) (h6 : a ≠ 66) : M1.1 a = M.1 a := h.1 a ha h6
theorem s_undo : Sim fSh_undo fMd_undo := by
  rintro M hI
  have hI0 := hI
  obtain ⟨p, n, hN, hT, hD, hIm, hC, hB, hS, hZ, hL⟩ := hI
  obtain ⟨u, a, u1, u2, u3, u4, u5, u6, u7⟩ := hC
  cases u with
  | zero =>
    have e0 : nI 0 = 0 := rfl
    refine ⟨-5, M, M, ?_, ?_, hI0⟩
    · simp [fSh_undo, fChanges_stepBack, u3, e0]
    · simp [fMd_undo, u4, e0]
  | succ w =>
    obtain ⟨c1, c2, c3, c4, ⟨k, j, ek, ej, hkj⟩, f1, f2⟩ := u7 w (by omega)
    have hk : okN p k j := hkj
    have j8 : j < 8 := by rcases hkj with h | h | h <;> omega
    have hv : rng (M.1 18 w) (tbG j) := by have := f1.2; rwa [ej, ix_n (by omega)] at this
    have w40 : w < 40 := by omega
    have e0 : (0 : Int32) < nI (w + 1) := (nI_ltI (a := 0) (by omega) (by omega)).mpr (by omega)
    have e1 : nI (w + 1) - 1 = nI w := nI_pred w
    have ew : ¬ nI w = -1 := fun q => nI_pos (n := w) (by omega) (by rw [q]; decide)
    obtain ⟨M1, t0, t1⟩ := tell_ok (M := wI M 15 4 (nI w)) hN.1 (fun c hc => hN.2.2.2.2.2.2.2.2.2 c hc) (M.1 18 w) hk
    have hK := t1.keep
    obtain ⟨M2, b0, b1⟩ := bec_ok (M := wI M1 66 30 (nI w)) hN.1 (M.1 18 w) hk
    have hK2 := b1.keep
    have k15 : M1.1 15 4 = nI w := by rw [hK.c 15 rfl (by decide)]; rfl
    have k30 : M1.1 66 30 = nI (w + 1) := by rw [hK.i66 30 rfl]; exact u4
    have k85 : M1.1 85 = M.1 85 := by rw [hK.c 85 rfl (by decide)]; rfl
    refine ⟨nI w, M1, M2, ?_, ?_, ?_⟩
    · simp only [fSh_undo, fChanges_stepBack, u3, e0, e1, if_true, Option.bind_some, wI_1, upd_a, ew, not_false_eq_true]
      rw [rdI_n w40 (by omega), rdI_n w40 (by omega), rdI_n w40 (by omega)]
      show Option.bind (fWorld_tell (wI M 15 4 (nI w)) (M.1 16 w) (M.1 17 w) (M.1 18 w)) _ = _
      rw [ek, ej, t0, Option.bind_some, k15]
    · have n0 : ¬ nI (w + 1) = 0 := nI_ne0 (by omega) (by omega)
      simp only [fMd_undo, k30, n0, not_false_eq_true, if_true, e1]
      have r1 : (wI M1 66 30 (nI w)).1 66 30 = nI w := rfl
      have e41 : nI (4 * w) + 1 = nI (4 * w + 1) := nI_add _ 1
      have e42 : nI (4 * w) + 2 = nI (4 * w + 2) := nI_add _ 2
      rw [r1, nI_mul4, e41, e42, rdI_n (by omega) (by omega), rdI_n (by omega) (by omega), rdI_n (by omega) (by omega)]
      have r2 : (wI M1 66 30 (nI w)).1 85 = M.1 85 := k85
      simp only [Option.bind_some, r2, c1, c2, c3, ek, ej, b0]
      rw [hK2.i66 30 rfl]
      rfl
    · have hN2 : IvN p M2 := IvN_tb (M := wI (wI M 15 4 (nI w)) 66 30 (nI w)) (hN.congr rfl rfl rfl rfl rfl rfl rfl rfl rfl rfl rfl rfl rfl rfl rfl rfl) hk hv (t1.fr 30 (nI w)) b1
      have K : Keep [15, 3, 4, 5, 6, 36, 37, 38, 39, 40, 67, 68, 69, 70] [30, 5] M M2 := (((Keep.w M 15 4 (nI w) (by decide)).tr hK).tr ((Keep.w66 M1 30 (nI w)).tr hK2)).sub rfl rfl
      refine ⟨p, n, hN2, hT.kp K ⟨rfl, rfl, rfl, rfl⟩, hD.kp K ⟨rfl, rfl⟩, hIm.kp K ⟨rfl, rfl, rfl, rfl, rfl, rfl, rfl, rfl, rfl, rfl, rfl⟩, ⟨w, a, by omega, u2, ?_, ?_, ?_, ?_, ?_⟩, hB.kp K ⟨rfl, rfl, rfl, rfl, rfl, rfl, rfl, rfl⟩, hS.kp K ⟨rfl, rfl, rfl, rfl⟩, hZ.kp K ⟨rfl, rfl, rfl, rfl⟩, hL.kp K ⟨rfl, rfl, rfl, rfl, rfl, rfl, rfl, rfl, rfl⟩⟩
      · rw [hK2.c 15 rfl (by decide)]; exact k15
      · rw [hK2.i66 30 rfl]; rfl
      · rw [hK2.c 15 rfl (by decide)]
        show M1.1 15 5 = _
        rw [hK.c 15 rfl (by decide)]; exact u5
      · rw [K.i66 29 rfl]; exact u6
      · rw [K.c 85 rfl (by decide), K.c 16 rfl (by decide), K.c 17 rfl (by decide), K.c 18 rfl (by decide), K.c 19 rfl (by decide)]
        exact u7
theorem s_redo : Sim fSh_redo fMd_redo := by
  rintro M hI
  have hI0 := hI
  obtain ⟨p, n, hN, hT, hD, hIm, hC, hB, hS, hZ, hL⟩ := hI
  obtain ⟨w, a, u1, u2, u3, u4, u5, u6, u7⟩ := hC
  by_cases hwa : w = a
  · subst hwa
    refine ⟨-5, M, M, ?_, ?_, hI0⟩
    · simp [fSh_redo, fChanges_stepOn, u3, u5]
    · simp [fMd_redo, u4, u6]
  · obtain ⟨c1, c2, c3, c4, ⟨k, j, ek, ej, hkj⟩, f1, f2⟩ := u7 w (by omega)
    have hk : okN p k j := hkj
    have j8 : j < 8 := by rcases hkj with h | h | h <;> omega
    have hv : rng (M.1 19 w) (tbG j) := by have := f2.2; rwa [ej, ix_n (by omega)] at this
    have w40 : w < 40 := by omega
    have e0 : nI w < nI a := (nI_ltI (by omega) (by omega)).mpr (by omega)
    have e1 : nI w + 1 = nI (w + 1) := nI_1 w
    have e2 : nI (w + 1) - 1 = nI w := nI_pred w
    have ew : ¬ nI w = -1 := fun q => nI_pos (n := w) (by omega) (by rw [q]; decide)
    have ewa : ¬ nI w = nI a := fun q => hwa ((nI_eq (by omega) (by omega)).mp q)
    obtain ⟨M1, t0, t1⟩ := tell_ok (M := wI M 15 4 (nI (w + 1))) hN.1 (fun c hc => hN.2.2.2.2.2.2.2.2.2 c hc) (M.1 19 w) hk
    have hK := t1.keep
    obtain ⟨M2, b0, b1⟩ := bec_ok (M := M1) hN.1 (M.1 19 w) hk
    have hK2 := b1.keep
    have k15 : M1.1 15 4 = nI (w + 1) := by rw [hK.c 15 rfl (by decide)]; rfl
    have k155 : M1.1 15 5 = nI a := by rw [hK.c 15 rfl (by decide)]; exact u5
    have k30 : M1.1 66 30 = nI w := by rw [hK.i66 30 rfl]; exact u4
    have k29 : M1.1 66 29 = nI a := by rw [hK.i66 29 rfl]; exact u6
    have k85 : M1.1 85 = M.1 85 := by rw [hK.c 85 rfl (by decide)]; rfl
    have q30 : M2.1 66 30 = nI w := by rw [hK2.i66 30 rfl]; exact k30
    have q29 : M2.1 66 29 = nI a := by rw [hK2.i66 29 rfl]; exact k29
    refine ⟨nI a - nI (w + 1), M1, wI M2 66 30 (nI (w + 1)), ?_, ?_, ?_⟩
    · simp only [fSh_redo, fChanges_stepOn, u3, u5, e0, e1, e2, if_true, Option.bind_some, wI_1, upd_a, ew, not_false_eq_true]
      rw [rdI_n w40 (by omega), rdI_n w40 (by omega), rdI_n w40 (by omega)]
      show Option.bind (fWorld_tell (wI M 15 4 (nI (w + 1))) (M.1 16 w) (M.1 17 w) (M.1 19 w)) _ = _
      rw [ek, ej, t0, Option.bind_some, fChanges_redoable, k15, k155]
    · have e43 : nI (4 * w) + 3 = nI (4 * w + 3) := nI_add _ 3
      have e41 : nI (4 * w) + 1 = nI (4 * w + 1) := nI_add _ 1
      simp only [fMd_redo, k30, k29, ewa, not_false_eq_true, if_true]
      rw [nI_mul4, e41, e43, rdI_n (by omega) (by omega), rdI_n (by omega) (by omega), rdI_n (by omega) (by omega)]
      simp only [Option.bind_some, k85, c1, c2, c4, ek, ej, b0, q30, e1]
      have r1 : (wI M2 66 30 (nI (w + 1))).1 66 29 = nI a := q29
      rw [r1]
      rfl
    · have hN2 : IvN p M2 := IvN_tb (M := wI M 15 4 (nI (w + 1))) (hN.congr rfl rfl rfl rfl rfl rfl rfl rfl rfl rfl rfl rfl rfl rfl rfl rfl) hk hv t1 b1
      have K : Keep [15, 3, 4, 5, 6, 36, 37, 38, 39, 40, 67, 68, 69, 70] [30, 5] M (wI M2 66 30 (nI (w + 1))) := ((((Keep.w M 15 4 (nI (w + 1)) (by decide)).tr hK).tr hK2).tr (Keep.w66 M2 30 (nI (w + 1)))).sub rfl rfl
      refine ⟨p, n, hN2.congr rfl rfl rfl rfl rfl rfl rfl rfl rfl rfl rfl rfl rfl rfl rfl rfl, hT.kp K ⟨rfl, rfl, rfl, rfl⟩, hD.kp K ⟨rfl, rfl⟩, hIm.kp K ⟨rfl, rfl, rfl, rfl, rfl, rfl, rfl, rfl, rfl, rfl, rfl⟩, ⟨w + 1, a, by omega, u2, ?_, rfl, ?_, ?_, ?_⟩, hB.kp K ⟨rfl, rfl, rfl, rfl, rfl, rfl, rfl, rfl⟩, hS.kp K ⟨rfl, rfl, rfl, rfl⟩, hZ.kp K ⟨rfl, rfl, rfl, rfl⟩, hL.kp K ⟨rfl, rfl, rfl, rfl, rfl, rfl, rfl, rfl, rfl⟩⟩
      · show M2.1 15 4 = _
        rw [hK2.c 15 rfl (by decide)]; exact k15
      · show M2.1 15 5 = _
        rw [hK2.c 15 rfl (by decide)]; exact k155
      · rw [K.i66 29 rfl]; exact u6
      · rw [K.c 85 rfl (by decide), K.c 16 rfl (by decide), K.c 17 rfl (by decide), K.c 18 rfl (by decide), K.c 19 rfl (by decide)]
        exact u7
theorem fit_ok (M : Mem) (v : Int32) (j : Nat) (hj : j < 8) : fWorld_isWithin M v (nI j) = some (fMd_within v 0 (tbG j)) ∧ fMd_isFit (nI j) v = fMd_within v 0 (tbG j) := by
  have e : j = 0 ∨ j = 1 ∨ j = 2 ∨ j = 3 ∨ j = 4 ∨ j = 5 ∨ j = 6 ∨ j = 7 := by omega
  have h1 : rdT 8 tbG (nI j) = some (tbG j) := by rcases e with rfl | rfl | rfl | rfl | rfl | rfl | rfl | rfl <;> rfl
  refine ⟨?_, ?_⟩
  · simp only [fWorld_isWithin, h1, Option.bind_some, fMd_within]
    by_cases q : v < 0
    · simp [q]
    · by_cases r : tbG j < v <;> simp [q, r]
  · rcases e with rfl | rfl | rfl | rfl | rfl | rfl | rfl | rfl <;> rfl
theorem within_rng {v m : Int32} (h : ¬ fMd_within v 0 m = 0) : rng v m := by
  unfold fMd_within at h
  unfold rng
  grind
