/-! THE START -/
theorem inv_00 {M : Mem} (h0 : ∀ a i, [0, 4, 12, 14, 24, 33, 88].contains a = false → M.1 a i = 0) (h4 : ∀ i, i < 36 → M.1 4 i = -1) (h24 : ∀ i, i < 6 → M.1 24 i = -1) (h88 : ∀ i, i < 6 → M.1 88 i = -1) (h10 : M.1 0 10 = -1) (hd : M.2.2 = (9, 10)) : Inv M := by
  have q : ∀ a i, [0, 4, 12, 14, 24, 33, 88].contains a = false → M.1 a i = 0 := h0
  have r : ∀ m : Int32, 0 ≤ m → rng 0 m := fun m hm => ⟨by decide, hm⟩
  have e : ∀ a b i j, [0, 4, 12, 14, 24, 33, 88].contains a = false → [0, 4, 12, 14, 24, 33, 88].contains b = false → ∀ m : Int32, 0 ≤ m → M.1 a i = M.1 b j ∧ rng (M.1 b j) m := fun a b i j g1 g2 m hm => by
    rw [q a i g1, q b j g2]
    exact ⟨rfl, r m hm⟩
  refine ⟨0, 0, ⟨by omega, q 2 4 rfl, q 66 3 rfl, fun i _ => e 67 3 i i rfl rfl 9 (by decide), fun i _ => e 68 37 i i rfl rfl 9999 (by decide), fun i _ => e 69 38 i i rfl rfl 2 (by decide), fun i h => absurd h (by omega), fun i _ _ => q 40 i rfl, e 66 36 5 4 rfl rfl 23 (by decide), fun c hc => ?_⟩, ⟨0, by omega, q 7 0 rfl, q 66 6 rfl, fun i h => absurd h (by omega)⟩, fun i _ => ?_, Or.inl ⟨h10, q 66 25 rfl⟩, ⟨0, 0, by omega, by omega, q 15 4 rfl, q 66 30 rfl, q 15 5 rfl, q 66 29 rfl, fun i h => absurd h (by omega)⟩, ⟨by omega, q 20 0 rfl, q 66 32 rfl, fun i h => absurd h (by omega), 0, by omega, q 20 1 rfl, q 66 34 rfl, fun i h => absurd h (by omega)⟩, fun s hs => Or.inl ⟨h24 s hs, h88 s hs⟩, fun i _ => ⟨q 41 i rfl, q 47 i rfl, q 53 i rfl, q 59 i rfl⟩, ⟨Or.inl hd, Or.inl ⟨q 7 6 rfl, q 66 8 rfl⟩⟩⟩
  · rw [h4 c hc, blw, if_pos (low4_0 (fun i => q 3 i rfl) c)]
  · rw [q 82 i rfl, q 34 i rfl]
def M0 : Mem := (fun a => if a = 0 then (fun i => if i = 10 then -1 else 0) else if a = 4 then flA (-1) (fun _ => 0) 36 else if a = 12 then (fun i => if i = 2 then -9 else if i = 4 then -2 else 0) else if a = 14 then (fun i => if i = 7 then 6 else 0) else if a = 24 then flA (-1) (fun _ => 0) 6 else if a = 33 then (fun i => if i = 2 then -2 else 0) else if a = 88 then flA (-1) (fun _ => 0) 6 else fun _ => 0, fun a => if a = 33 then (fun i => if i = 1 then 1 else 0) else fun _ => 0, (9, 10))
theorem inv_M0 : Inv M0 := by
  refine inv_00 (fun a i h => ?_) (fun i hi => ?_) (fun i hi => ?_) (fun i hi => ?_) rfl rfl
  · have g : ∀ k, [0, 4, 12, 14, 24, 33, 88].contains k = true → a ≠ k := fun k hk e => by
      subst e
      rw [hk] at h
      cases h
    show (if a = 0 then _ else if a = 4 then _ else if a = 12 then _ else if a = 14 then _ else if a = 24 then _ else if a = 33 then _ else if a = 88 then _ else fun _ => (0 : Int32)) i = 0
    rw [if_neg (g 0 rfl), if_neg (g 4 rfl), if_neg (g 12 rfl), if_neg (g 14 rfl), if_neg (g 24 rfl), if_neg (g 33 rfl), if_neg (g 88 rfl)]
  · exact if_pos hi
  · exact if_pos hi
  · exact if_pos hi
def rig (G : Dg) (u t : Nat → Nat) : Rig := (G.1, u, fun k => match (shp k).1 with | 0 => G.2.1 | 1 => G.2.2.1 | _ => G.2.2.2, t)
theorem arrV_cg (c : ClassId) {n : Nat} {f g : Nat → Value} (h : ∀ i, i < n → f i = g i) : arrV c n f = arrV c n g := by
  unfold arrV
  have e : (fun j : Fin n => f j.val) = fun j : Fin n => g j.val := funext fun j => h j.val j.isLt
  rw [e]
def perm95 : List Nat := [0, 1, 2, 3, 6, 4, 5, 13, 14, 15, 16, 17, 18, 25, 26, 39, 40, 41, 42, 43, 44, 45, 46, 47, 56, 48, 49, 50, 51, 52, 53, 54, 55, 57, 58, 65, 7, 8, 9, 10, 11, 12, 19, 20, 21, 22, 23, 24, 27, 28, 29, 30, 31, 32, 33, 34, 35, 36, 37, 38, 59, 60, 61, 62, 63, 64, 66, 67, 68, 69, 70, 71, 72, 73, 74, 75, 76, 77, 78, 79, 80, 81, 82, 83, 84, 85, 86, 87, 88, 89, 90, 91, 92, 93, 94]
set_option maxRecDepth 20000 in
set_option maxHeartbeats 8000000 in
theorem start_W {G : Dg} {wA wB : va_W} {qA qB : Nat} {A : Nat → Prop} {H : Heap} (hA : p_X10 G qA wA) (hB : p_X11 G qB wB) (t : Nat → Nat) (hP : va_P G.1 vwCl ([] ++ wA ++ wB) H) (hD : va_D A ([] ++ wA ++ wB)) : ∃ (u : Nat → Nat) (W : va_W), u 0 = qA ∧ u 66 = qB ∧ va_D A W ∧ ∀ k, k < 95 → (∃ e, W[perm95.getD k 0]? = some (u k, e)) ∧ va_at G.1 vwCl (u k, cellE (rig G u t) M0 k) H := by
  obtain ⟨a1, w1, a12, w12, a14, w14, a15, w15, a20, w20, a23, w23, a33, w33, a34, a60, w60, a35, ⟨a2, w2, a36, w36, a7, w7, ⟨a3, a4, a5, a6, rfl⟩, ⟨a37, a38, a39, a40, a41, rfl⟩, ⟨a8, a9, a10, a11, rfl⟩, rfl⟩, ⟨a42, w42, a13, ⟨a43, a44, a45, a46, a47, rfl⟩, rfl⟩, ⟨a48, w48, a54, w54, ⟨a49, a50, a51, a52, a53, rfl⟩, ⟨a55, a56, a57, a58, a59, rfl⟩, rfl⟩, ⟨a16, a17, a18, a19, rfl⟩, ⟨a21, a22, rfl⟩, ⟨a24, a25, a26, rfl⟩, rfl, ⟨a61, a62, a63, a64, a65, rfl⟩, rfl⟩ := hA
  obtain ⟨a67, a68, a69, a70, a71, a72, a73, a74, a75, a76, a77, a78, a79, a80, a81, a82, a83, a84, a85, a86, a87, a88, a89, a90, a91, a92, a93, a94, rfl⟩ := hB
  simp only [List.nil_append, List.cons_append, List.append_nil, List.append_assoc] at hP hD
  refine ⟨fun k => ([qA, a1, a2, a3, a4, a5, a6, a7, a8, a9, a10, a11, a12, a13, a14, a15, a16, a17, a18, a19, a20, a21, a22, a23, a24, a25, a26, a26 + 1, a26 + 2, a26 + 3, a26 + 4, a26 + 5, a26 + 6, a33, a34, a35, a36, a37, a38, a39, a40, a41, a42, a43, a44, a45, a46, a47, a48, a49, a50, a51, a52, a53, a54, a55, a56, a57, a58, a59, a60, a61, a62, a63, a64, a65, qB, a67, a68, a69, a70, a71, a72, a73, a74, a75, a76, a77, a78, a79, a80, a81, a82, a83, a84, a85, a86, a87, a88, a89, a90, a91, a92, a93, a94] : List Nat).getD k 0, [(qA, .inr (10, [.ref a1, .ref a12, .ref a14, .ref a15, .ref a20, .ref a23, .ref a33, .ref a34, .ref a60, .ref a35, .int (-1)])), (a1, .inr (9, [.ref a2, .ref a36, .ref a7])), (a2, .inr (7, [.ref a3, .ref a4, .ref a5, .ref a6, .int 0])), (a3, iA G 36), (a5, iA G 8), (a6, iA G 8), (a4, .inl (G.2.1, 36, .inl (flA (-1) (fun _ => 0) 36))), (a36, .inr (5, [.ref a37, .ref a38, .ref a39, .ref a40, .int 0, .int 0, .int 0, .int 0, .ref a41])), (a37, iA G 36), (a38, iA G 36), (a39, iA G 8), (a40, iA G 8), (a41, iA G 36), (a7, .inr (3, [.int 0, .ref a8, .int 0, .ref a9, .int 0, .ref a10, .int 0, .ref a11, .int 0, .int 0, .int 0, .int 0, .int 0, .int 0])), (a8, iA G 120), (a9, iA G 240), (a10, iA G 240), (a11, iA G 120), (a12, .inr (6, [.ref a42, .ref a13, .int (-9), .int 0, .int (-2)])), (a42, .inr (5, [.ref a43, .ref a44, .ref a45, .ref a46, .int 0, .int 0, .int 0, .int 0, .ref a47])), (a43, iA G 36), (a44, iA G 36), (a45, iA G 8), (a46, iA G 8), (a47, iA G 36), (a13, iA G 36), (a14, .inr (8, [.ref a48, .ref a54, .int 0, .int 0, .int 0, .int 0, .int 0, .int 6])), (a48, .inr (5, [.ref a49, .ref a50, .ref a51, .ref a52, .int 0, .int 0, .int 0, .int 0, .ref a53])), (a49, iA G 36), (a50, iA G 36), (a51, iA G 8), (a52, iA G 8), (a53, iA G 36), (a54, .inr (5, [.ref a55, .ref a56, .ref a57, .ref a58, .int 0, .int 0, .int 0, .int 0, .ref a59])), (a55, iA G 36), (a56, iA G 36), (a57, iA G 8), (a58, iA G 8), (a59, iA G 36), (a15, .inr (2, [.ref a16, .ref a17, .ref a18, .ref a19, .int 0, .int 0])), (a16, iA G 40), (a17, iA G 40), (a18, iA G 40), (a19, iA G 40), (a20, .inr (1, [.int 0, .int 0, .ref a21, .ref a22])), (a21, iA G 24), (a22, iA G 50), (a23, .inr (4, [.ref a24, .ref a25, .ref a26])), (a25, iA G 6), (a26, .inl (G.2.2.2, 6, .inr (.inr (.inr (.inr (fun i => some (a26 + 1 + i))))))), (a26 + 1, lA G 60), (a26 + 2, lA G 60), (a26 + 3, lA G 60), (a26 + 4, lA G 60), (a26 + 5, lA G 60), (a26 + 6, lA G 60), (a24, .inl (G.2.1, 6, .inl (flA (-1) (fun _ => 0) 6))), (a33, .inr (0, [.long 0, .long 1, .int (-2)])), (a34, iA G 5), (a60, .inr (5, [.ref a61, .ref a62, .ref a63, .ref a64, .int 0, .int 0, .int 0, .int 0, .ref a65])), (a61, iA G 36), (a62, iA G 36), (a63, iA G 8), (a64, iA G 8), (a65, iA G 36), (a35, iA G 5), (qB, .inr (11, [.ref a67, .ref a68, .ref a69, .int 0, .ref a70, .int 0, .int 0, .ref a71, .int 0, .int 0, .ref a72, .ref a73, .ref a74, .ref a75, .int 0, .int 0, .int 0, .int 0, .ref a76, .ref a77, .ref a78, .ref a79, .ref a80, .ref a81, .ref a82, .int 0, .int 0, .ref a83, .ref a84, .int 0, .int 0, .ref a85, .int 0, .ref a86, .int 0, .ref a87, .ref a88, .ref a89, .ref a90, .ref a91, .int 0, .int 0, .ref a92, .ref a93, .ref a94])), (a67, iA G 36), (a68, iA G 36), (a69, iA G 36), (a70, iA G 32), (a71, iA G 120), (a72, iA G 60), (a73, iA G 60), (a74, iA G 60), (a75, iA G 200), (a76, iA G 61), (a77, iA G 61), (a78, iA G 61), (a79, iA G 200), (a80, iA G 200), (a81, iA G 6), (a82, iA G 5), (a83, iA G 105), (a84, iA G 5), (a85, iA G 160), (a86, iA G 50), (a87, iA G 24), (a88, .inl (G.2.1, 6, .inl (flA (-1) (fun _ => 0) 6))), (a89, iA G 6), (a90, lA G 360), (a91, iA G 36), (a92, iA G 105), (a93, iA G 105), (a94, iA G 105)], rfl, rfl, hD, fun k hk => ?_⟩
  match k, hk with
    | 0, _ => exact ⟨⟨_, rfl⟩, hP 0 _ rfl⟩
    | 1, _ => exact ⟨⟨_, rfl⟩, hP 1 _ rfl⟩
    | 2, _ => exact ⟨⟨_, rfl⟩, hP 2 _ rfl⟩
    | 3, _ => exact ⟨⟨_, rfl⟩, hP 3 _ rfl⟩
    | 4, _ => exact ⟨⟨_, rfl⟩, hP 6 _ rfl⟩
    | 5, _ => exact ⟨⟨_, rfl⟩, hP 4 _ rfl⟩
    | 6, _ => exact ⟨⟨_, rfl⟩, hP 5 _ rfl⟩
    | 7, _ => exact ⟨⟨_, rfl⟩, hP 13 _ rfl⟩
    | 8, _ => exact ⟨⟨_, rfl⟩, hP 14 _ rfl⟩
    | 9, _ => exact ⟨⟨_, rfl⟩, hP 15 _ rfl⟩
    | 10, _ => exact ⟨⟨_, rfl⟩, hP 16 _ rfl⟩
    | 11, _ => exact ⟨⟨_, rfl⟩, hP 17 _ rfl⟩
    | 12, _ => exact ⟨⟨_, rfl⟩, hP 18 _ rfl⟩
    | 13, _ => exact ⟨⟨_, rfl⟩, hP 25 _ rfl⟩
    | 14, _ => exact ⟨⟨_, rfl⟩, hP 26 _ rfl⟩
    | 15, _ => exact ⟨⟨_, rfl⟩, hP 39 _ rfl⟩
    | 16, _ => exact ⟨⟨_, rfl⟩, hP 40 _ rfl⟩
    | 17, _ => exact ⟨⟨_, rfl⟩, hP 41 _ rfl⟩
    | 18, _ => exact ⟨⟨_, rfl⟩, hP 42 _ rfl⟩
    | 19, _ => exact ⟨⟨_, rfl⟩, hP 43 _ rfl⟩
    | 20, _ => exact ⟨⟨_, rfl⟩, hP 44 _ rfl⟩
    | 21, _ => exact ⟨⟨_, rfl⟩, hP 45 _ rfl⟩
    | 22, _ => exact ⟨⟨_, rfl⟩, hP 46 _ rfl⟩
    | 23, _ => exact ⟨⟨_, rfl⟩, hP 47 _ rfl⟩
    | 24, _ => exact ⟨⟨_, rfl⟩, hP 56 _ rfl⟩
    | 25, _ => exact ⟨⟨_, rfl⟩, hP 48 _ rfl⟩
    | 26, _ =>
      refine ⟨⟨_, rfl⟩, ?_⟩
      have e : H[a26]? = some (arrV G.2.2.2 6 (fun j => va_rf (some (a26 + 1 + j)))) := hP 49 _ rfl
      rw [arrV_cg (g := fun j => va_rf (some (([qA, a1, a2, a3, a4, a5, a6, a7, a8, a9, a10, a11, a12, a13, a14, a15, a16, a17, a18, a19, a20, a21, a22, a23, a24, a25, a26, a26 + 1, a26 + 2, a26 + 3, a26 + 4, a26 + 5, a26 + 6, a33, a34, a35, a36, a37, a38, a39, a40, a41, a42, a43, a44, a45, a46, a47, a48, a49, a50, a51, a52, a53, a54, a55, a56, a57, a58, a59, a60, a61, a62, a63, a64, a65, qB, a67, a68, a69, a70, a71, a72, a73, a74, a75, a76, a77, a78, a79, a80, a81, a82, a83, a84, a85, a86, a87, a88, a89, a90, a91, a92, a93, a94] : List Nat).getD (27 + j) 0))) G.2.2.2 (fun i hi => by
        have h9 : i < 6 := hi
        rcases (show i = 0 ∨ i = 1 ∨ i = 2 ∨ i = 3 ∨ i = 4 ∨ i = 5 by omega) with rfl | rfl | rfl | rfl | rfl | rfl <;> rfl)] at e
      exact e
    | 27, _ => exact ⟨⟨_, rfl⟩, hP 50 _ rfl⟩
    | 28, _ => exact ⟨⟨_, rfl⟩, hP 51 _ rfl⟩
    | 29, _ => exact ⟨⟨_, rfl⟩, hP 52 _ rfl⟩
    | 30, _ => exact ⟨⟨_, rfl⟩, hP 53 _ rfl⟩
    | 31, _ => exact ⟨⟨_, rfl⟩, hP 54 _ rfl⟩
    | 32, _ => exact ⟨⟨_, rfl⟩, hP 55 _ rfl⟩
    | 33, _ => exact ⟨⟨_, rfl⟩, hP 57 _ rfl⟩
    | 34, _ => exact ⟨⟨_, rfl⟩, hP 58 _ rfl⟩
    | 35, _ => exact ⟨⟨_, rfl⟩, hP 65 _ rfl⟩
    | 36, _ => exact ⟨⟨_, rfl⟩, hP 7 _ rfl⟩
    | 37, _ => exact ⟨⟨_, rfl⟩, hP 8 _ rfl⟩
    | 38, _ => exact ⟨⟨_, rfl⟩, hP 9 _ rfl⟩
    | 39, _ => exact ⟨⟨_, rfl⟩, hP 10 _ rfl⟩
    | 40, _ => exact ⟨⟨_, rfl⟩, hP 11 _ rfl⟩
    | 41, _ => exact ⟨⟨_, rfl⟩, hP 12 _ rfl⟩
    | 42, _ => exact ⟨⟨_, rfl⟩, hP 19 _ rfl⟩
    | 43, _ => exact ⟨⟨_, rfl⟩, hP 20 _ rfl⟩
    | 44, _ => exact ⟨⟨_, rfl⟩, hP 21 _ rfl⟩
    | 45, _ => exact ⟨⟨_, rfl⟩, hP 22 _ rfl⟩
    | 46, _ => exact ⟨⟨_, rfl⟩, hP 23 _ rfl⟩
    | 47, _ => exact ⟨⟨_, rfl⟩, hP 24 _ rfl⟩
    | 48, _ => exact ⟨⟨_, rfl⟩, hP 27 _ rfl⟩
    | 49, _ => exact ⟨⟨_, rfl⟩, hP 28 _ rfl⟩
    | 50, _ => exact ⟨⟨_, rfl⟩, hP 29 _ rfl⟩
    | 51, _ => exact ⟨⟨_, rfl⟩, hP 30 _ rfl⟩
    | 52, _ => exact ⟨⟨_, rfl⟩, hP 31 _ rfl⟩
    | 53, _ => exact ⟨⟨_, rfl⟩, hP 32 _ rfl⟩
    | 54, _ => exact ⟨⟨_, rfl⟩, hP 33 _ rfl⟩
    | 55, _ => exact ⟨⟨_, rfl⟩, hP 34 _ rfl⟩
    | 56, _ => exact ⟨⟨_, rfl⟩, hP 35 _ rfl⟩
    | 57, _ => exact ⟨⟨_, rfl⟩, hP 36 _ rfl⟩
    | 58, _ => exact ⟨⟨_, rfl⟩, hP 37 _ rfl⟩
    | 59, _ => exact ⟨⟨_, rfl⟩, hP 38 _ rfl⟩
    | 60, _ => exact ⟨⟨_, rfl⟩, hP 59 _ rfl⟩
    | 61, _ => exact ⟨⟨_, rfl⟩, hP 60 _ rfl⟩
    | 62, _ => exact ⟨⟨_, rfl⟩, hP 61 _ rfl⟩
    | 63, _ => exact ⟨⟨_, rfl⟩, hP 62 _ rfl⟩
    | 64, _ => exact ⟨⟨_, rfl⟩, hP 63 _ rfl⟩
    | 65, _ => exact ⟨⟨_, rfl⟩, hP 64 _ rfl⟩
    | 66, _ => exact ⟨⟨_, rfl⟩, hP 66 _ rfl⟩
    | 67, _ => exact ⟨⟨_, rfl⟩, hP 67 _ rfl⟩
    | 68, _ => exact ⟨⟨_, rfl⟩, hP 68 _ rfl⟩
    | 69, _ => exact ⟨⟨_, rfl⟩, hP 69 _ rfl⟩
    | 70, _ => exact ⟨⟨_, rfl⟩, hP 70 _ rfl⟩
    | 71, _ => exact ⟨⟨_, rfl⟩, hP 71 _ rfl⟩
    | 72, _ => exact ⟨⟨_, rfl⟩, hP 72 _ rfl⟩
    | 73, _ => exact ⟨⟨_, rfl⟩, hP 73 _ rfl⟩
    | 74, _ => exact ⟨⟨_, rfl⟩, hP 74 _ rfl⟩
    | 75, _ => exact ⟨⟨_, rfl⟩, hP 75 _ rfl⟩
    | 76, _ => exact ⟨⟨_, rfl⟩, hP 76 _ rfl⟩
    | 77, _ => exact ⟨⟨_, rfl⟩, hP 77 _ rfl⟩
    | 78, _ => exact ⟨⟨_, rfl⟩, hP 78 _ rfl⟩
    | 79, _ => exact ⟨⟨_, rfl⟩, hP 79 _ rfl⟩
    | 80, _ => exact ⟨⟨_, rfl⟩, hP 80 _ rfl⟩
    | 81, _ => exact ⟨⟨_, rfl⟩, hP 81 _ rfl⟩
    | 82, _ => exact ⟨⟨_, rfl⟩, hP 82 _ rfl⟩
    | 83, _ => exact ⟨⟨_, rfl⟩, hP 83 _ rfl⟩
    | 84, _ => exact ⟨⟨_, rfl⟩, hP 84 _ rfl⟩
    | 85, _ => exact ⟨⟨_, rfl⟩, hP 85 _ rfl⟩
    | 86, _ => exact ⟨⟨_, rfl⟩, hP 86 _ rfl⟩
    | 87, _ => exact ⟨⟨_, rfl⟩, hP 87 _ rfl⟩
    | 88, _ => exact ⟨⟨_, rfl⟩, hP 88 _ rfl⟩
    | 89, _ => exact ⟨⟨_, rfl⟩, hP 89 _ rfl⟩
    | 90, _ => exact ⟨⟨_, rfl⟩, hP 90 _ rfl⟩
    | 91, _ => exact ⟨⟨_, rfl⟩, hP 91 _ rfl⟩
    | 92, _ => exact ⟨⟨_, rfl⟩, hP 92 _ rfl⟩
    | 93, _ => exact ⟨⟨_, rfl⟩, hP 93 _ rfl⟩
    | 94, _ => exact ⟨⟨_, rfl⟩, hP 94 _ rfl⟩
    | k + 95, hk => omega
theorem perm95_nd : va_nd perm95 = true := by decide +kernel
theorem start_P {G : Dg} {wA wB : va_W} {qA qB : Nat} {A : Nat → Prop} {H : Heap} (hA : p_X10 G qA wA) (hB : p_X11 G qB wB) (t : Nat → Nat) (hP : va_P G.1 vwCl ([] ++ wA ++ wB) H) (hD : va_D A ([] ++ wA ++ wB)) : ∃ u : Nat → Nat, u 0 = qA ∧ u 66 = qB ∧ va_P G.1 vwCl (wld (rig G u t) M0) H ∧ (∀ i j, i < 95 → j < 95 → u i = u j → i = j) ∧ ∀ k, k < 95 → A (u k) := by
  obtain ⟨u, W, e0, e1, hW, hk⟩ := start_W hA hB t hP hD
  refine ⟨u, e0, e1, fun k q hq => ?_, fun i j hi hj e => ?_, fun k h => ?_⟩
  · by_cases h : k < 95
    · rw [wld_at _ _ h] at hq
      cases hq
      exact (hk k h).2
    · rw [List.getElem?_eq_none (by simp [wld]; omega)] at hq
      cases hq
  · obtain ⟨⟨c1, h1⟩, -⟩ := hk i hi
    obtain ⟨⟨c2, h2⟩, -⟩ := hk j hj
    have h3 := hW.1 _ _ _ _ h1 h2 e
    have hl : perm95.length = 95 := rfl
    have g : ∀ a, a < 95 → perm95[a]? = some (perm95.getD a 0) := fun a ha => by
      rw [List.getD_eq_getElem?_getD, List.getElem?_eq_getElem (by rw [hl]; exact ha)]
      rfl
    exact va_nd_inj perm95 perm95_nd i j (perm95.getD i 0) (g i hi) (by rw [h3]; exact g j hj)
  · obtain ⟨⟨c1, h1⟩, -⟩ := hk k h
    exact hW.2 _ _ h1
