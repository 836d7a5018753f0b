/-! THE LAW'S LOOP -/
theorem sw_cases (v : Int32) : (v.toInt < 0 ∨ 40 < v.toInt) ∨ ∃ k : Nat, k < 41 ∧ v = nI k := by
  by_cases h : v.toInt < 0 ∨ 40 < v.toInt
  · exact Or.inl h
  · refine Or.inr ⟨v.toInt.toNat, by omega, Int32.toInt_inj.mp ?_⟩
    rw [nI_toInt (by omega)]
    omega
theorem len_taken {L i : Nat} (hL : L ≤ 3072) (hi : i ≤ L) (h : ¬ i + 6 ≤ L) : nI L - 6 < nI i := by
  by_cases h6 : 6 ≤ L
  · have e : nI L - 6 = nI (L - 6) := by
      have q := nI_add (L - 6) 6
      rw [show L - 6 + 6 = L by omega] at q
      rw [← q]
      exact Int32.add_sub_cancel _ _
    rw [e]
    exact nI_lt (by omega) (by omega)
  · rw [Int32.lt_iff_toInt_lt, nI_toInt (by omega)]
    rcases (show L = 0 ∨ L = 1 ∨ L = 2 ∨ L = 3 ∨ L = 4 ∨ L = 5 by omega) with rfl | rfl | rfl | rfl | rfl | rfl
    · rw [show (nI 0 - 6).toInt = -6 by decide]; omega
    · rw [show (nI 1 - 6).toInt = -5 by decide]; omega
    · rw [show (nI 2 - 6).toInt = -4 by decide]; omega
    · rw [show (nI 3 - 6).toInt = -3 by decide]; omega
    · rw [show (nI 4 - 6).toInt = -2 by decide]; omega
    · rw [show (nI 5 - 6).toInt = -1 by decide]; omega
theorem len_not {L i : Nat} (hL : L ≤ 3072) (h : i + 6 ≤ L) : ¬ nI L - 6 < nI i := by
  have e : nI L - 6 = nI (L - 6) := by
    have q := nI_add (L - 6) 6
    rw [show L - 6 + 6 = L by omega] at q
    rw [← q]
    exact Int32.add_sub_cancel _ _
  rw [e]
  intro q
  have := (nI_ltI (a := L - 6) (b := i) (by omega) (by omega)).mp q
  omega
theorem law_body {X : Amb} {b L i : Nat} {xs : Nat → Int32} {M : Mem} (C : Cx X RL cL_law 500) (hs : Sc X b L xs) (hL : L ≤ 3072) (hi : i + 6 ≤ L) (hI : Inv M) (kk : ∀ M2, Inv M2 → WA X M2 (lvL X b i) 1528 []) : WA X M (lvL X b i) 27 [] := by
  refine a_aload_n C dL_law_27 rfl 3 rfl ?_
  refine a_iload_n C dL_law_28 rfl 0 rfl ?_
  refine a_sld C hs (v := xs i) (vp_in_nI (by omega) (by omega)) (by rw [nI_clamp (by omega)]) dL_law_29 ?_
  refine a_bipush C 63 dL_law_30 (by decide) ?_
  refine a_iand C dL_law_32 ?_
  generalize xs i &&& 63 = v
  rcases sw_cases v with h | ⟨k, hk, rfl⟩
  · exact a_tsw_out C 1528 dL_law_33 h (by decide) (kk M hI)
  · match k, hk with
    | 0, _ => exact a_tsw_in C (nI 0) 212 dL_law_33 rfl (by decide) (by decide) rfl (by decide) (lc_0 C hs hL hi hI kk)
    | 1, _ => exact a_tsw_in C (nI 1) 235 dL_law_33 rfl (by decide) (by decide) rfl (by decide) (lc_1 C hs hL hi hI kk)
    | 2, _ => exact a_tsw_in C (nI 2) 278 dL_law_33 rfl (by decide) (by decide) rfl (by decide) (lc_2 C hs hL hi hI kk)
    | 3, _ => exact a_tsw_in C (nI 3) 321 dL_law_33 rfl (by decide) (by decide) rfl (by decide) (lc_3 C hs hL hi hI kk)
    | 4, _ => exact a_tsw_in C (nI 4) 354 dL_law_33 rfl (by decide) (by decide) rfl (by decide) (lc_4 C hs hL hi hI kk)
    | 5, _ => exact a_tsw_in C (nI 5) 377 dL_law_33 rfl (by decide) (by decide) rfl (by decide) (lc_5 C hs hL hi hI kk)
    | 6, _ => exact a_tsw_in C (nI 6) 390 dL_law_33 rfl (by decide) (by decide) rfl (by decide) (lc_6 C hs hL hi hI kk)
    | 7, _ => exact a_tsw_in C (nI 7) 413 dL_law_33 rfl (by decide) (by decide) rfl (by decide) (lc_7 C hs hL hi hI kk)
    | 8, _ => exact a_tsw_in C (nI 8) 456 dL_law_33 rfl (by decide) (by decide) rfl (by decide) (lc_8 C hs hL hi hI kk)
    | 9, _ => exact a_tsw_in C (nI 9) 489 dL_law_33 rfl (by decide) (by decide) rfl (by decide) (lc_9 C hs hL hi hI kk)
    | 10, _ => exact a_tsw_in C (nI 10) 502 dL_law_33 rfl (by decide) (by decide) rfl (by decide) (lc_10 C hs hL hi hI kk)
    | 11, _ => exact a_tsw_in C (nI 11) 535 dL_law_33 rfl (by decide) (by decide) rfl (by decide) (lc_11 C hs hL hi hI kk)
    | 12, _ => exact a_tsw_in C (nI 12) 568 dL_law_33 rfl (by decide) (by decide) rfl (by decide) (lc_12 C hs hL hi hI kk)
    | 13, _ => exact a_tsw_in C (nI 13) 592 dL_law_33 rfl (by decide) (by decide) rfl (by decide) (lc_13 C hs hL hi hI kk)
    | 14, _ => exact a_tsw_in C (nI 14) 635 dL_law_33 rfl (by decide) (by decide) rfl (by decide) (lc_14 C hs hL hi hI kk)
    | 15, _ => exact a_tsw_in C (nI 15) 678 dL_law_33 rfl (by decide) (by decide) rfl (by decide) (lc_15 C hs hL hi hI kk)
    | 16, _ => exact a_tsw_in C (nI 16) 721 dL_law_33 rfl (by decide) (by decide) rfl (by decide) (lc_16 C hs hL hi hI kk)
    | 17, _ => exact a_tsw_in C (nI 17) 754 dL_law_33 rfl (by decide) (by decide) rfl (by decide) (lc_17 C hs hL hi hI kk)
    | 18, _ => exact a_tsw_in C (nI 18) 797 dL_law_33 rfl (by decide) (by decide) rfl (by decide) (lc_18 C hs hL hi hI kk)
    | 19, _ => exact a_tsw_in C (nI 19) 830 dL_law_33 rfl (by decide) (by decide) rfl (by decide) (lc_19 C hs hL hi hI kk)
    | 20, _ => exact a_tsw_in C (nI 20) 864 dL_law_33 rfl (by decide) (by decide) rfl (by decide) (lc_20 C hs hL hi hI kk)
    | 21, _ => exact a_tsw_in C (nI 21) 907 dL_law_33 rfl (by decide) (by decide) rfl (by decide) (lc_21 C hs hL hi hI kk)
    | 22, _ => exact a_tsw_in C (nI 22) 950 dL_law_33 rfl (by decide) (by decide) rfl (by decide) (lc_22 C hs hL hi hI kk)
    | 23, _ => exact a_tsw_in C (nI 23) 963 dL_law_33 rfl (by decide) (by decide) rfl (by decide) (lc_23 C hs hL hi hI kk)
    | 24, _ => exact a_tsw_in C (nI 24) 996 dL_law_33 rfl (by decide) (by decide) rfl (by decide) (lc_24 C hs hL hi hI kk)
    | 25, _ => exact a_tsw_in C (nI 25) 1029 dL_law_33 rfl (by decide) (by decide) rfl (by decide) (lc_25 C hs hL hi hI kk)
    | 26, _ => exact a_tsw_in C (nI 26) 1062 dL_law_33 rfl (by decide) (by decide) rfl (by decide) (lc_26 C hs hL hi hI kk)
    | 27, _ => exact a_tsw_in C (nI 27) 1085 dL_law_33 rfl (by decide) (by decide) rfl (by decide) (lc_27 C hs hL hi hI kk)
    | 28, _ => exact a_tsw_in C (nI 28) 1098 dL_law_33 rfl (by decide) (by decide) rfl (by decide) (lc_28 C hs hL hi hI kk)
    | 29, _ => exact a_tsw_in C (nI 29) 1111 dL_law_33 rfl (by decide) (by decide) rfl (by decide) (lc_29 C hs hL hi hI kk)
    | 30, _ => exact a_tsw_in C (nI 30) 1124 dL_law_33 rfl (by decide) (by decide) rfl (by decide) (lc_30 C hs hL hi hI kk)
    | 31, _ => exact a_tsw_in C (nI 31) 1137 dL_law_33 rfl (by decide) (by decide) rfl (by decide) (lc_31 C hs hL hi hI kk)
    | 32, _ => exact a_tsw_in C (nI 32) 1160 dL_law_33 rfl (by decide) (by decide) rfl (by decide) (lc_32 C hs hL hi hI kk)
    | 33, _ => exact a_tsw_in C (nI 33) 1203 dL_law_33 rfl (by decide) (by decide) rfl (by decide) (lc_33 C hs hL hi hI kk)
    | 34, _ => exact a_tsw_in C (nI 34) 1226 dL_law_33 rfl (by decide) (by decide) rfl (by decide) (lc_34 C hs hL hi hI kk)
    | 35, _ => exact a_tsw_in C (nI 35) 1259 dL_law_33 rfl (by decide) (by decide) rfl (by decide) (lc_35 C hs hL hi hI kk)
    | 36, _ => exact a_tsw_in C (nI 36) 1302 dL_law_33 rfl (by decide) (by decide) rfl (by decide) (lc_36 C hs hL hi hI kk)
    | 37, _ => exact a_tsw_in C (nI 37) 1375 dL_law_33 rfl (by decide) (by decide) rfl (by decide) (lc_37 C hs hL hi hI kk)
    | 38, _ => exact a_tsw_in C (nI 38) 1409 dL_law_33 rfl (by decide) (by decide) rfl (by decide) (lc_38 C hs hL hi hI kk)
    | 39, _ => exact a_tsw_in C (nI 39) 1472 dL_law_33 rfl (by decide) (by decide) rfl (by decide) (lc_39 C hs hL hi hI kk)
    | 40, _ => exact a_tsw_in C (nI 40) 1505 dL_law_33 rfl (by decide) (by decide) rfl (by decide) (lc_40 C hs hL hi hI kk)
    | k + 41, hk => omega
theorem law_loop {X : Amb} {b L : Nat} {xs : Nat → Int32} (C : Cx X RL cL_law 500) (hs : Sc X b L xs) (hL : L ≤ 3072) (hn : X.nL = 4) (ret : ∀ M lv, WA X M lv 1534 []) : ∀ (k i : Nat) (M : Mem), L ≤ i + k → i ≤ L → Inv M → WA X M (lvL X b i) 18 [] := by
  intro k
  induction k with
  | zero =>
    intro i M h1 h2 hI
    refine a_iload_n C dL_law_18 rfl 0 rfl ?_
    refine a_aload_n C dL_law_19 rfl 3 rfl ?_
    refine a_slen C hs dL_law_20 ?_
    refine a_bipush C 6 dL_law_21 (by decide) ?_
    refine a_isub C dL_law_23 ?_
    exact a_icmp_gt C 1534 dL_law_24 (by decide) (fun _ => ret _ _) (fun h => absurd (len_taken hL h2 (by omega)) h)
  | succ k ih =>
    intro i M h1 h2 hI
    refine a_iload_n C dL_law_18 rfl 0 rfl ?_
    refine a_aload_n C dL_law_19 rfl 3 rfl ?_
    refine a_slen C hs dL_law_20 ?_
    refine a_bipush C 6 dL_law_21 (by decide) ?_
    refine a_isub C dL_law_23 ?_
    by_cases h6 : i + 6 ≤ L
    · refine a_icmp_gt C 1534 dL_law_24 (by decide) (fun h => absurd h (len_not hL h6)) (fun _ => ?_)
      refine law_body C hs hL h6 hI (fun M2 hI2 => ?_)
      refine a_iinc C 0 (nI (i + 6)) (lvL X b (i + 6)) dL_law_1528 rfl (nI_add i 6) (by rw [hn]; decide) rfl ?_
      refine a_goto C 18 dL_law_1531 (by decide) ?_
      exact ih (i + 6) M2 (by omega) h6 hI2
    · exact a_icmp_gt C 1534 dL_law_24 (by decide) (fun _ => ret _ _) (fun h => absurd (len_taken hL h2 h6) h)
