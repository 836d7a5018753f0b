/-! THE START: what both hold when they are made -/
theorem low4_0 {h : Nat → Int32} (h0 : ∀ i, h i = 0) (c : Nat) : low4 h c = c := by
  have z : ∀ w, lowr h c c w = c := fun w => by
    unfold lowr
    cases bsd c w with
    | none => rfl
    | some d =>
      show (if h d < h c then d else c) = c
      rw [h0 d, h0 c, if_neg (by decide)]
  unfold low4
  rw [z, z, z, z]
theorem inv_0 {M : Mem} (h0 : ∀ a i, a ≠ 4 → a ≠ 24 → a ≠ 88 → a ≠ 33 → ¬ (a = 0 ∧ i = 10) → M.1 a i = 0) (h4 : ∀ i, i < 36 → M.1 4 i = -1) (h24 : ∀ i, i < 6 → M.1 24 i = -1) (h88 : ∀ i, i < 6 → M.1 88 i = -1) (h10 : M.1 0 10 = -1) (hd : M.2.2 = (9, 10)) : Inv M := by
  have q : ∀ a i, 0 < a → a ≠ 4 → a ≠ 24 → a ≠ 88 → a ≠ 33 → M.1 a i = 0 := fun a i h1 h2 h3 h4 h5 => h0 a i h2 h3 h4 h5 (by omega)
  have r : ∀ m : Int32, 0 ≤ m → rng 0 m := fun m hm => ⟨by decide, hm⟩
  have e : ∀ a b i j, 0 < a → a ≠ 4 → a ≠ 24 → a ≠ 88 → a ≠ 33 → 0 < b → b ≠ 4 → b ≠ 24 → b ≠ 88 → b ≠ 33 → ∀ m : Int32, 0 ≤ m → M.1 a i = M.1 b j ∧ rng (M.1 b j) m := fun a b i j g1 g2 g3 g4 g5 g6 g7 g8 g9 g10 m hm => by
    rw [q a i g1 g2 g3 g4 g5, q b j g6 g7 g8 g9 g10]
    exact ⟨rfl, r m hm⟩
  refine ⟨0, 0, ⟨by omega, q 2 4 (by omega) (by omega) (by omega) (by omega) (by omega), q 66 3 (by omega) (by omega) (by omega) (by omega) (by omega), fun i _ => e 67 3 i i (by omega) (by omega) (by omega) (by omega) (by omega) (by omega) (by omega) (by omega) (by omega) (by omega) 9 (by decide), fun i _ => e 68 37 i i (by omega) (by omega) (by omega) (by omega) (by omega) (by omega) (by omega) (by omega) (by omega) (by omega) 9999 (by decide), fun i _ => e 69 38 i i (by omega) (by omega) (by omega) (by omega) (by omega) (by omega) (by omega) (by omega) (by omega) (by omega) 2 (by decide), fun i h => absurd h (by omega), fun i _ _ => q 40 i (by omega) (by omega) (by omega) (by omega) (by omega), e 66 36 5 4 (by omega) (by omega) (by omega) (by omega) (by omega) (by omega) (by omega) (by omega) (by omega) (by omega) 23 (by decide), fun c hc => ?_⟩, ⟨0, by omega, q 7 0 (by omega) (by omega) (by omega) (by omega) (by omega), q 66 6 (by omega) (by omega) (by omega) (by omega) (by omega), fun i h => absurd h (by omega)⟩, fun i _ => ?_, Or.inl ⟨h10, q 66 25 (by omega) (by omega) (by omega) (by omega) (by omega)⟩, ⟨0, 0, by omega, by omega, q 15 4 (by omega) (by omega) (by omega) (by omega) (by omega), q 66 30 (by omega) (by omega) (by omega) (by omega) (by omega), q 15 5 (by omega) (by omega) (by omega) (by omega) (by omega), q 66 29 (by omega) (by omega) (by omega) (by omega) (by omega), fun i h => absurd h (by omega)⟩, ⟨by omega, q 20 0 (by omega) (by omega) (by omega) (by omega) (by omega), q 66 32 (by omega) (by omega) (by omega) (by omega) (by omega), fun i h => absurd h (by omega), 0, by omega, q 20 1 (by omega) (by omega) (by omega) (by omega) (by omega), q 66 34 (by omega) (by omega) (by omega) (by omega) (by omega), fun i h => absurd h (by omega)⟩, fun s hs => Or.inl ⟨h24 s hs, h88 s hs⟩, fun i _ => ⟨q 41 i (by omega) (by omega) (by omega) (by omega) (by omega), q 47 i (by omega) (by omega) (by omega) (by omega) (by omega), q 53 i (by omega) (by omega) (by omega) (by omega) (by omega), q 59 i (by omega) (by omega) (by omega) (by omega) (by omega)⟩, ⟨Or.inl hd, Or.inl ⟨q 7 6 (by omega) (by omega) (by omega) (by omega) (by omega), q 66 8 (by omega) (by omega) (by omega) (by omega) (by omega)⟩⟩⟩
  · rw [h4 c hc, blw, if_pos (low4_0 (fun i => q 3 i (by omega) (by omega) (by omega) (by omega) (by omega)) c)]
  · rw [q 82 i (by omega) (by omega) (by omega) (by omega) (by omega), q 34 i (by omega) (by omega) (by omega) (by omega) (by omega)]
