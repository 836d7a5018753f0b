/-! WHAT MAY CHANGE: the places of P alone -/
def Kp (P : Nat → Nat → Prop) (M M' : Mem) : Prop := (∀ a i, ¬ P a i → M'.1 a i = M.1 a i) ∧ M'.2 = M.2
theorem Kp.rf (P : Nat → Nat → Prop) (M : Mem) : Kp P M M := ⟨fun _ _ _ => rfl, rfl⟩
theorem Kp.tr {P : Nat → Nat → Prop} {M M1 M2 : Mem} (h : Kp P M M1) (k : Kp P M1 M2) : Kp P M M2 := ⟨fun a i n => (k.1 a i n).trans (h.1 a i n), k.2.trans h.2⟩
theorem Kp.mono {P Q : Nat → Nat → Prop} {M M1 : Mem} (h : Kp P M M1) (hpq : ∀ a i, P a i → Q a i) : Kp Q M M1 := ⟨fun a i n => h.1 a i (fun z => n (hpq a i z)), h.2⟩
theorem Kp.w {P : Nat → Nat → Prop} (M : Mem) {a i : Nat} (x : Int32) (h : P a i) : Kp P M (wI M a i x) := ⟨fun b j n => by
  rw [wI_1]
  by_cases q : b = a
  · subst q
    rw [if_pos rfl, upd_a]
    by_cases r : j = i
    · subst r; exact absurd h n
    · rw [if_neg r]
  · rw [if_neg q], rfl⟩
theorem Kp.up {P : Nat → Nat → Prop} (M : Mem) {a : Nat} (f : Nat → Int32) (h : ∀ i, P a i) : Kp P M (upA M a f) := ⟨fun b j n => by
  rw [upA_1]
  by_cases q : b = a
  · subst q; exact absurd (h j) n
  · rw [if_neg q], rfl⟩
theorem Kp.f {P : Nat → Nat → Prop} {M M1 : Mem} (h : Kp P M M1) {a : Nat} (n : ∀ i, ¬ P a i) : M1.1 a = M.1 a := funext fun i => h.1 a i (n i)
/-! THE LAW'S WORTH -/
def bothV (c x y : Int32) : Int32 := (fMd_both c x y).getD 0
theorem both_m (c x y : Int32) : fMd_both c x y = some (bothV c x y) := by
  have : (fMd_both c x y).isSome = true := by
    unfold fMd_both dvI rmIo
    repeat' split
    all_goals first | rfl | (simp_all)
  obtain ⟨v, e⟩ := Option.isSome_iff_exists.mp this
  unfold bothV
  rw [e]
  rfl
def ev1 (nm : Int32 → Int32) (c : Int32) (st : List Int32) : List Int32 := if 18 ≤ c then (c - 18) :: st else if c ≤ 5 then nm c :: st else if c = 16 ∨ c = 17 then (match st with
  | x :: t => (if c = 17 then -x else if x = 0 then 1 else 0) :: t
  | [] => []) else (match st with
  | y :: x :: t => bothV c x y :: t
  | [y] => [y]
  | [] => [])
def ev (nm : Int32 → Int32) : List Int32 → List Int32 → List Int32
  | st, [] => st
  | st, c :: r => ev nm (ev1 nm c st) r
def Stk (A : Nat → Int32) : List Int32 → Prop
  | [] => True
  | x :: t => A t.length = x ∧ Stk A t
theorem Stk.up {A : Nat → Int32} {st : List Int32} (h : Stk A st) {k : Nat} (x : Int32) (hk : st.length ≤ k) : Stk (upd A k x) st := by
  induction st with
  | nil => trivial
  | cons y t ih =>
    have hk' : t.length + 1 ≤ k := hk
    refine ⟨?_, ih h.2 (by omega)⟩
    rw [upd_a, if_neg (by omega)]
    exact h.1
theorem Stk.push {A : Nat → Int32} {st : List Int32} (h : Stk A st) (x : Int32) : Stk (upd A st.length x) (x :: st) := ⟨by rw [upd_a, if_pos rfl], h.up x (Nat.le_refl _)⟩
theorem Stk.congr {A B : Nat → Int32} {st : List Int32} (h : Stk A st) (e : B = A) : Stk B st := e ▸ h
/-- the codes of an expression -/
theorem code_cases {c : Int32} (h : 0 ≤ c ∧ c ≤ 10017) : (∃ w : Nat, w ≤ 9999 ∧ c = nI (18 + w)) ∨ (∃ k : Nat, k < 6 ∧ c = nI k) ∨ (∃ k : Nat, (k = 16 ∨ k = 17) ∧ c = nI k) ∨ ∃ k : Nat, 6 ≤ k ∧ k < 16 ∧ c = nI k := by
  obtain ⟨k, hk, rfl⟩ := in_lit (x := c) (b := 10018) 10018 (by omega) rfl (Int32.not_lt.mpr h.1) (by have := h.2; grind)
  rcases Nat.lt_or_ge k 18 with q | q
  · rcases Nat.lt_or_ge k 6 with r | r
    · exact Or.inr (Or.inl ⟨k, r, rfl⟩)
    · rcases Nat.lt_or_ge k 16 with z | z
      · exact Or.inr (Or.inr (Or.inr ⟨k, r, z, rfl⟩))
      · exact Or.inr (Or.inr (Or.inl ⟨k, by omega, rfl⟩))
  · exact Or.inl ⟨k - 18, by omega, by congr 1; omega⟩
theorem c18 (w : Nat) (hw : w ≤ 9999) : (18 : Int32) ≤ nI (18 + w) ∧ ¬ nI (18 + w) ≤ 5 ∧ nI (18 + w) - 18 = nI w := by
  refine ⟨(leL (b := 18) 18 rfl (by omega) (by omega)).mpr (by omega), fun q => by have := (leR (b := 5) 5 rfl (by omega) (by omega)).mp q; omega, ?_⟩
  have : (18 : Int32) = nI 18 := rfl
  rw [this, nI_sub (by omega)]
  congr 1
  omega
theorem ev1_num (nm : Int32 → Int32) (w : Nat) (hw : w ≤ 9999) (st : List Int32) : ev1 nm (nI (18 + w)) st = nI w :: st := by
  obtain ⟨a, b, c⟩ := c18 w hw
  unfold ev1
  rw [if_pos a, c]
theorem ev1_nam (nm : Int32 → Int32) (k : Nat) (hk : k < 6) (st : List Int32) : ev1 nm (nI k) st = nm (nI k) :: st := by
  have a : ¬ (18 : Int32) ≤ nI k := nI_geL (b := 18) 18 rfl (by omega) (by omega)
  have b : nI k ≤ 5 := (leR (b := 5) 5 rfl (by omega) (by omega)).mpr (by omega)
  unfold ev1
  rw [if_neg a, if_pos b]
theorem ev1_un (nm : Int32 → Int32) (k : Nat) (hk : k = 16 ∨ k = 17) (x : Int32) (t : List Int32) : ev1 nm (nI k) (x :: t) = (if k = 17 then -x else if x = 0 then 1 else 0) :: t := by
  rcases hk with rfl | rfl <;> rfl
theorem ev1_bin (nm : Int32 → Int32) (k : Nat) (h1 : 6 ≤ k) (h2 : k < 16) (y x : Int32) (t : List Int32) : ev1 nm (nI k) (y :: x :: t) = bothV (nI k) x y :: t := by
  have a : ¬ (18 : Int32) ≤ nI k := nI_geL (b := 18) 18 rfl (by omega) (by omega)
  have b : ¬ nI k ≤ 5 := fun q => by have := (leR (b := 5) 5 rfl (by omega) (by omega)).mp q; omega
  have c : ¬ (nI k = 16 ∨ nI k = 17) := by
    rintro (q | q)
    · have := (eqR (b := 16) 16 rfl (by omega) (by omega)).mp q; omega
    · have := (eqR (b := 17) 17 rfl (by omega) (by omega)).mp q; omega
  unfold ev1
  rw [if_neg a, if_neg b, if_neg c]
/-! how high the stack stands -/
theorem dep_num (w : Nat) (hw : w ≤ 9999) (d : Nat) (r : List Int32) : dep d (nI (18 + w) :: r) = dep (d + 1) r := by
  obtain ⟨a, b, c⟩ := c18 w hw
  rw [dep, if_pos (Or.inl a)]
theorem dep_nam (k : Nat) (hk : k < 6) (d : Nat) (r : List Int32) : dep d (nI k :: r) = dep (d + 1) r := by
  have b : nI k ≤ 5 := (leR (b := 5) 5 rfl (by omega) (by omega)).mpr (by omega)
  rw [dep, if_pos (Or.inr b)]
theorem dep_un (k : Nat) (hk : k = 16 ∨ k = 17) (d : Nat) (r : List Int32) : dep d (nI k :: r) = if 1 ≤ d then dep d r else none := by
  rcases hk with rfl | rfl <;> rfl
theorem dep_bin (k : Nat) (h1 : 6 ≤ k) (h2 : k < 16) (d : Nat) (r : List Int32) : dep d (nI k :: r) = if 2 ≤ d then dep (d - 1) r else none := by
  have a : ¬ (18 : Int32) ≤ nI k := nI_geL (b := 18) 18 rfl (by omega) (by omega)
  have b : ¬ nI k ≤ 5 := fun q => by have := (leR (b := 5) 5 rfl (by omega) (by omega)).mp q; omega
  have c : ¬ (nI k = 16 ∨ nI k = 17) := by
    rintro (q | q)
    · have := (eqR (b := 16) 16 rfl (by omega) (by omega)).mp q; omega
    · have := (eqR (b := 17) 17 rfl (by omega) (by omega)).mp q; omega
  rw [dep, if_neg (fun q => q.elim a b), if_neg c]
theorem dep_le : ∀ (cs : List Int32) (d e : Nat), dep d cs = some e → e ≤ d + cs.length := by
  intro cs
  induction cs with
  | nil => intro d e h; cases h; simp
  | cons c r ih =>
    intro d e h
    rw [dep] at h
    split at h
    · have := ih _ _ h; simp only [List.length_cons]; omega
    · split at h
      · split at h
        · have := ih _ _ h; simp only [List.length_cons]; omega
        · cases h
      · split at h
        · have := ih _ _ h; simp only [List.length_cons]; omega
        · cases h
/-! THE REFERENCE WORKS AN EXPRESSION -/
theorem m1_succ (d : Nat) : nI (d + 1) + (-1) = nI d := by rw [← Int32.sub_eq_add_neg]; exact nI_pred d
def okC (cs : List Int32) : Prop := ∀ c ∈ cs, 0 ≤ c ∧ c ≤ 10017
theorem work_L (nm : Int32 → Int32) : ∀ (cs st : List Int32) (M : Mem) (a n e : Nat), okC cs → dep st.length cs = some e → st.length + cs.length ≤ 199 → a + cs.length ≤ 200 → cs.length < n → Stk (M.1 80) st → (∀ j c, cs[j]? = some c → M.1 75 (a + j) = c) → (∀ k, k < 6 → M.1 81 k = nm (nI k)) →
    ∃ M1, fMd_worked_L5 n M (nI (a + cs.length)) (nI st.length) (nI a) = some M1 ∧ Stk (M1.1 80) (ev nm st cs) ∧ (ev nm st cs).length = e ∧ Kp (fun b _ => b = 80) M M1 := by
  intro cs
  induction cs with
  | nil =>
    intro st M a n e _ hd _ _ hn hS _ _
    obtain ⟨n, rfl⟩ : ∃ q, n = q + 1 := ⟨n - 1, by simp at hn; omega⟩
    refine ⟨M, ?_, hS, ?_, Kp.rf _ _⟩
    · show fMd_worked_L5_F (fMd_worked_L5 n) M _ _ _ = _
      simp only [fMd_worked_L5_F, List.length_nil, Nat.add_zero, Int32.le_refl, if_true]
    · exact Option.some.inj hd
  | cons c r ih =>
    intro st M a n e hok hd h1 h2 hn hS hc hnm
    obtain ⟨n, rfl⟩ : ∃ q, n = q + 1 := ⟨n - 1, by omega⟩
    simp only [List.length_cons] at h1 h2 hn
    have hlt : ¬ nI (a + (r.length + 1)) ≤ nI a := nI_ge (by omega) (by omega)
    have hr : M.1 75 a = c := hc 0 c rfl
    have ea : nI a + 1 = nI (a + 1) := nI_1 a
    have elen : a + (r.length + 1) = a + 1 + r.length := by omega
    have hokr : okC r := fun x hx => hok x (List.mem_cons_of_mem _ hx)
    have hcr : ∀ (M' : Mem), M'.1 75 = M.1 75 → ∀ j d, r[j]? = some d → M'.1 75 (a + 1 + j) = d := fun M' e j d hj => by
      rw [e]
      have := hc (j + 1) d (by simpa using hj)
      rw [show a + 1 + j = a + (j + 1) by omega]
      exact this
    have cont : ∀ (st' : List Int32) (M' : Mem), M'.1 75 = M.1 75 → M'.1 81 = M.1 81 → Kp (fun b _ => b = 80) M M' → Stk (M'.1 80) st' → dep st'.length r = some e → st'.length ≤ st.length + 1 → ev1 nm c st = st' → fMd_worked_L5 (n + 1) M (nI (a + (r.length + 1))) (nI st.length) (nI a) = fMd_worked_L5 n M' (nI (a + (r.length + 1))) (nI st'.length) (nI (a + 1)) → ∃ M1, fMd_worked_L5 (n + 1) M (nI (a + (r.length + 1))) (nI st.length) (nI a) = some M1 ∧ Stk (M1.1 80) (ev nm st (c :: r)) ∧ (ev nm st (c :: r)).length = e ∧ Kp (fun b _ => b = 80) M M1 := fun st' M' e75 e81 K S D L E F => by
      obtain ⟨M1, q1, q2, q3, q4⟩ := ih st' M' (a + 1) n e hokr D (by omega) (by omega) (by omega) S (hcr M' e75) (fun k hk => by rw [e81]; exact hnm k hk)
      rw [ev, E]
      exact ⟨M1, by rw [F, elen]; exact q1, q2, q3, K.tr q4⟩
    have hl200 : st.length < 200 := by omega
    have ra : ∀ ih' : Mem → Int32 → Int32 → Int32 → Option Mem, fMd_worked_L5_F ih' M (nI (a + (r.length + 1))) (nI st.length) (nI a) = if 18 ≤ c then fMd_worked_J33_5 ih' M (nI (a + (r.length + 1))) (nI st.length) (nI a) c else if 5 < c then if c = 16 then fMd_worked_J81_5 ih' M (nI (a + (r.length + 1))) (nI st.length) (nI a) c else if ¬ c = 17 then Option.bind (rdI 200 80 M ((nI st.length + (-1)) - 1)) fun v18 => Option.bind (rdI 200 80 M (nI st.length + (-1))) fun v19 => Option.bind (fMd_both c v18 v19) fun v20 => Option.bind (stI 200 80 M ((nI st.length + (-1)) - 1) v20) fun M22 => ih' M22 (nI (a + (r.length + 1))) (nI st.length + (-1)) (nI a + 1) else fMd_worked_J81_5 ih' M (nI (a + (r.length + 1))) (nI st.length) (nI a) c else fMd_worked_J33_5 ih' M (nI (a + (r.length + 1))) (nI st.length) (nI a) c := fun ih' => by
      simp only [fMd_worked_L5_F, hlt, if_false, rdI_n (show a < 200 by omega) (by omega : 200 ≤ 1000), Option.bind_some, hr]
    have F0 : fMd_worked_L5 (n + 1) M (nI (a + (r.length + 1))) (nI st.length) (nI a) = fMd_worked_L5_F (fMd_worked_L5 n) M (nI (a + (r.length + 1))) (nI st.length) (nI a) := rfl
    rcases code_cases (hok c (List.mem_cons_self ..)) with ⟨w, hw, rfl⟩ | ⟨k, hk, rfl⟩ | ⟨k, hk, rfl⟩ | ⟨k, hk1, hk2, rfl⟩
    · obtain ⟨b1, b2, b3⟩ := c18 w hw
      rw [dep_num w hw] at hd
      refine cont (nI w :: st) (wI M 80 st.length (nI w)) rfl rfl (Kp.w M _ rfl) ?_ hd (Nat.le_refl _) (ev1_num nm w hw st) ?_
      · rw [wI_1, if_pos rfl]; exact hS.push _
      · have b4 : ¬ nI (18 + w) < 18 := Int32.not_lt.mpr b1
        rw [F0, ra, if_pos b1, fMd_worked_J33_5, if_neg b4, b3, stI_n hl200 (by omega), Option.bind_some, nI_1, ea]
        rfl
    · have a1 : ¬ (18 : Int32) ≤ nI k := nI_geL (b := 18) 18 rfl (by omega) (by omega)
      have a2 : ¬ 5 < nI k := Int32.not_lt.mpr ((leR (b := 5) 5 rfl (by omega) (by omega)).mpr (by omega))
      have a3 : nI k < 18 := Int32.not_le.mp a1
      rw [dep_nam k hk] at hd
      refine cont (nm (nI k) :: st) (wI M 80 st.length (nm (nI k))) rfl rfl (Kp.w M _ rfl) ?_ hd (Nat.le_refl _) (ev1_nam nm k hk st) ?_
      · rw [wI_1, if_pos rfl]; exact hS.push _
      · rw [F0, ra, if_neg a1, if_neg a2, fMd_worked_J33_5, if_pos a3, rdI_n hk (by omega), Option.bind_some, hnm k hk, stI_n hl200 (by omega), Option.bind_some, nI_1, ea]
        rfl
    · rw [dep_un k hk] at hd
      cases st with
      | nil => exact absurd hd (by simp)
      | cons x t =>
        rw [if_pos (by simp)] at hd
        have hl : nI (x :: t).length - 1 = nI t.length := nI_pred _
        have hx : M.1 80 t.length = x := hS.1
        have ht2 : t.length < 200 := by simp only [List.length_cons] at hl200; omega
        refine cont ((if k = 17 then -x else if x = 0 then 1 else 0) :: t) (wI M 80 t.length (if k = 17 then -x else if x = 0 then 1 else 0)) rfl rfl (Kp.w M _ rfl) ?_ hd (by simp) (ev1_un nm k hk x t) ?_
        · rw [wI_1, if_pos rfl]; exact hS.2.push _
        · have FJ : fMd_worked_L5_F (fMd_worked_L5 n) M (nI (a + (r.length + 1))) (nI (x :: t).length) (nI a) = fMd_worked_J81_5 (fMd_worked_L5 n) M (nI (a + (r.length + 1))) (nI (x :: t).length) (nI a) (nI k) := by
            rw [ra]
            rcases hk with rfl | rfl <;> rfl
          rw [F0, FJ, fMd_worked_J81_5]
          rcases hk with rfl | rfl
          · have z : ¬ nI 16 = 17 := by decide
            rw [if_pos z, hl, rdI_n ht2 (by omega), Option.bind_some, hx, ea]
            by_cases x0 : x = 0
            · rw [if_neg (fun q => q x0), stI_n ht2 (by omega), Option.bind_some]
              simp only [x0, if_true]
              rfl
            · rw [if_pos x0, stI_n ht2 (by omega), Option.bind_some]
              simp only [x0, if_false]
              rfl
          · have z : ¬ ¬ nI 17 = 17 := by decide
            rw [if_neg z, hl, rdI_n ht2 (by omega), Option.bind_some, hx, ea, stI_n ht2 (by omega), Option.bind_some]
            rfl
    · rw [dep_bin k hk1 hk2] at hd
      cases st with
      | nil => exact absurd hd (by simp)
      | cons y st1 =>
       cases st1 with
       | nil => exact absurd hd (by simp)
       | cons x t =>
        rw [if_pos (by simp)] at hd
        have hl : nI (y :: x :: t).length + (-1) = nI (t.length + 1) := m1_succ _
        have hl2 : nI (t.length + 1) - 1 = nI t.length := nI_pred _
        have hy : M.1 80 (t.length + 1) = y := hS.1
        have hx : M.1 80 t.length = x := hS.2.1
        simp only [List.length_cons] at hl200
        have a1 : ¬ (18 : Int32) ≤ nI k := nI_geL (b := 18) 18 rfl (by omega) (by omega)
        have a2 : 5 < nI k := (ltL (b := 5) 5 rfl (by omega) (by omega)).mpr (by omega)
        have a3 : ¬ nI k = 16 := fun q => by have := (eqR (b := 16) 16 rfl (by omega) (by omega)).mp q; omega
        have a4 : ¬ nI k = 17 := fun q => by have := (eqR (b := 17) 17 rfl (by omega) (by omega)).mp q; omega
        refine cont (bothV (nI k) x y :: t) (wI M 80 t.length (bothV (nI k) x y)) rfl rfl (Kp.w M _ rfl) ?_ hd (by simp only [List.length_cons]; omega) (ev1_bin nm k hk1 hk2 y x t) ?_
        · rw [wI_1, if_pos rfl]; exact hS.2.2.push _
        · rw [F0, ra, if_neg a1, if_pos a2, if_neg a3, if_pos a4, hl, hl2, rdI_n (show t.length < 200 by omega) (by omega), rdI_n (show t.length + 1 < 200 by omega) (by omega), Option.bind_some, Option.bind_some, hx, hy, both_m, Option.bind_some, stI_n (show t.length < 200 by omega) (by omega), Option.bind_some, ea]
          rfl
/-- what an expression gives -/
def val (nm : Int32 → Int32) (cs : List Int32) : Int32 := (ev nm [] cs).headD 0
theorem len1 {l : List Int32} (h : l.length = 1) : ∃ x, l = [x] := by
  match l, h with
  | [x], _ => exact ⟨x, rfl⟩
theorem worked_ok (nm : Int32 → Int32) (cs : List Int32) (M : Mem) (a : Nat) (hv : valid cs) (hl : cs.length ≤ 120) (ha : a + cs.length ≤ 200) (hc : ∀ j c, cs[j]? = some c → M.1 75 (a + j) = c) (hnm : ∀ k, k < 6 → M.1 81 k = nm (nI k)) : ∃ M1, fMd_worked M (nI a) (nI (a + cs.length)) = some (val nm cs, M1) ∧ Kp (fun b _ => b = 80) M M1 := by
  obtain ⟨M1, q1, q2, q3, q4⟩ := work_L nm cs [] M a FU 1 hv.2 hv.1 (by simp; omega) ha (fu_lt (by omega)) trivial hc hnm
  obtain ⟨x, ex⟩ := len1 q3
  rw [ex] at q2
  have e0 : fMd_worked_L5 FU M (nI (a + cs.length)) 0 (nI a) = some M1 := q1
  refine ⟨M1, ?_, q4⟩
  rw [fMd_worked, e0, Option.bind_some]
  show Option.bind (rdI 200 80 M1 (nI 0)) _ = _
  rw [rdI_n (by omega) (by omega), Option.bind_some]
  have : M1.1 80 0 = x := q2.1
  rw [this, val, ex]
  rfl
