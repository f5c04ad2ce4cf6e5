/-! sets and counts -/
def setL (P : Int → Bool) : Nat → Int → Int → Int
  | 0, _, s => s
  | n + 1, i, s => setL P n (i + 1) (bif P i then mor s (mshl 1 i) else s)
def cntL (P : Int → Bool) : Nat → Int → Int → Int
  | 0, _, s => s
  | n + 1, i, s => cntL P n (i + 1) (bif P i then s + 1 else s)
theorem setL_cg {P Q : Int → Bool} : ∀ (n : Nat) (i s : Int), (∀ j, i ≤ j → j < i + n → P j = Q j) → setL P n i s = setL Q n i s := by
  intro n
  induction n with
  | zero => intro i s _; rfl
  | succ n ih =>
    intro i s h
    rw [setL, setL, h i (by omega) (by omega)]
    exact ih _ _ (fun j a b => h j (by omega) (by omega))
theorem setL_no {P : Int → Bool} : ∀ (n : Nat) (i s : Int), (∀ j, i ≤ j → j < i + n → P j = false) → setL P n i s = s := by
  intro n
  induction n with
  | zero => intro i s _; rfl
  | succ n ih =>
    intro i s h
    rw [setL, h i (by omega) (by omega)]
    exact ih _ _ (fun j a b => h j (by omega) (by omega))
theorem setL_add {P : Int → Bool} : ∀ (n m : Nat) (i s : Int), setL P (n + m) i s = setL P m (i + n) (setL P n i s) := by
  intro n
  induction n with
  | zero => intro m i s; rw [Nat.zero_add, show i + ((0 : Nat) : Int) = i by omega]; rfl
  | succ n ih =>
    intro m i s
    rw [show n + 1 + m = (n + m) + 1 by omega, setL, setL, ih, show i + 1 + (n : Int) = i + ((n + 1 : Nat) : Int) by omega]
theorem v0 : vI 0 := ⟨by decide, by decide⟩
theorem v_if {b : Bool} {s i : Int} (h : vI s) : vI (bif b then mor s (mshl 1 i) else s) := by
  cases b
  · exact h
  · exact mor_v _ _
theorem setL_v {P : Int → Bool} : ∀ (n : Nat) (i s : Int), vI s → vI (setL P n i s) := by
  intro n
  induction n with
  | zero => intro i s h; exact h
  | succ n ih => intro i s h; exact ih _ _ (v_if h)
theorem x_livingIn {Ln : Nat} {σ : mmSt} {a : Nat} {C : Cty} (k : KX σ a C) {D : Nat} (hD : 3 ≤ D) (p : Int) : srun (lyT Ln) (D, 39, 0, [mR a, mI p, mJ, mJ], [], σ) = some (σ, setL (fun q => livesB C q p) (Int.toNat (C 2 0)) 0 0) := by
  obtain ⟨d, rfl⟩ := Nat.exists_eq_add_of_le' hD
  have w := k.2.2.1
  rw [b_County_livingIn _ _ _ _ _ k.1]
  have : ∀ (n : Nat) (i s : Int), i + n = C 2 0 → 0 ≤ i → srun (lyT Ln) (d + 3, 39, 4, [mR a, mI p, mI s, mI i], [], σ) = some (σ, setL (fun q => livesB C q p) n i s) := by
    intro n
    induction n with
    | zero => intro i s e h0; rw [b_County_livingIn_4 _ _ _ _ _ _ _ k.1, x2 k.2.1, decide_eq_true (by omega)]; rfl
    | succ n ih =>
      intro i s e h0
      rw [b_County_livingIn_4 _ _ _ _ _ _ _ k.1, x2 k.2.1, decide_eq_false (by omega), cond_false, x_lives k (by omega) h0 (by omega), Option.bind_some, mw (by omega) (by omega), setL]
      simp only [dec0]
      rw [ih (i + 1) s (by omega) (by omega), ih (i + 1) (mor s (mshl 1 i)) (by omega) (by omega)]
      cases livesB C i p <;> rfl
  exact this _ 0 0 (by omega) (by omega)
theorem x_brands {Ln : Nat} {σ : mmSt} {a : Nat} {C : Cty} (k : KX σ a C) {D : Nat} (hD : 3 ≤ D) : srun (lyT Ln) (D, 40, 0, [mR a, mJ, mJ], [], σ) = some (σ, setL (fun q => livesB C q (C 11 q)) (Int.toNat (C 2 0)) 0 0) := by
  obtain ⟨d, rfl⟩ := Nat.exists_eq_add_of_le' hD
  have w := k.2.2.1
  rw [b_County_atTheirBrands _ _ _ _ k.1]
  have : ∀ (n : Nat) (i s : Int), i + n = C 2 0 → 0 ≤ i → srun (lyT Ln) (d + 3, 40, 4, [mR a, mI s, mI i], [], σ) = some (σ, setL (fun q => livesB C q (C 11 q)) n i s) := by
    intro n
    induction n with
    | zero => intro i s e h0; rw [b_County_atTheirBrands_4 _ _ _ _ _ _ k.1, x2 k.2.1, decide_eq_true (by omega)]; rfl
    | succ n ih =>
      intro i s e h0
      rw [b_County_atTheirBrands_4 _ _ _ _ _ _ k.1, x2 k.2.1, decide_eq_false (by omega), cond_false, minb_t h0 (by omega), cond_true, x11 k.2.1 i h0 (by omega), x_lives k (by omega) h0 (by omega), Option.bind_some, mw (by omega) (by omega), setL]
      simp only [dec0]
      rw [ih (i + 1) s (by omega) (by omega), ih (i + 1) (mor s (mshl 1 i)) (by omega) (by omega)]
      cases livesB C i (C 11 i) <;> rfl
  exact this _ 0 0 (by omega) (by omega)
theorem x_roadsAt {Ln : Nat} {σ : mmSt} {a : Nat} {C : Cty} (k : KX σ a C) {D : Nat} (hD : 2 ≤ D) (p : Int) : srun (lyT Ln) (D, 41, 0, [mR a, mI p, mJ, mJ], [], σ) = some (σ, setL (fun r => touchB C r p) (Int.toNat (C 1 0)) 0 0) := by
  obtain ⟨d, rfl⟩ := Nat.exists_eq_add_of_le' hD
  have w := k.2.2.1
  rw [b_County_roadsAt _ _ _ _ _ k.1]
  have : ∀ (n : Nat) (i s : Int), i + n = C 1 0 → 0 ≤ i → srun (lyT Ln) (d + 2, 41, 4, [mR a, mI p, mI s, mI i], [], σ) = some (σ, setL (fun r => touchB C r p) n i s) := by
    intro n
    induction n with
    | zero => intro i s e h0; rw [b_County_roadsAt_4 _ _ _ _ _ _ _ k.1, x1 k.2.1, decide_eq_true (by omega)]; rfl
    | succ n ih =>
      intro i s e h0
      rw [b_County_roadsAt_4 _ _ _ _ _ _ _ k.1, x1 k.2.1, decide_eq_false (by omega), cond_false, x_touch k (by omega) h0 (by omega), Option.bind_some, mw (by omega) (by omega), setL]
      simp only [dec0]
      rw [ih (i + 1) s (by omega) (by omega), ih (i + 1) (mor s (mshl 1 i)) (by omega) (by omega)]
      cases touchB C i p <;> rfl
  exact this _ 0 0 (by omega) (by omega)
def openB (C : Cty) (q r : Int) : Bool := !deadB C q && (touchB C r (C 9 q) && crossB C q r)
theorem x_open {Ln : Nat} {σ : mmSt} {a : Nat} {C : Cty} (k : KX σ a C) {D : Nat} (hD : 2 ≤ D) {q : Int} (q0 : 0 ≤ q) (q1 : q < C 2 0) : srun (lyT Ln) (D, 42, 0, [mR a, mI q, mJ, mJ], [], σ) = some (σ, setL (openB C q) (Int.toNat (C 1 0)) 0 0) := by
  obtain ⟨d, rfl⟩ := Nat.exists_eq_add_of_le' hD
  have w := k.2.2.1
  rw [b_County_roadsOpenTo _ _ _ _ _ k.1]
  have : ∀ (n : Nat) (i s : Int), i + n = C 1 0 → 0 ≤ i → srun (lyT Ln) (d + 2, 42, 4, [mR a, mI q, mI s, mI i], [], σ) = some (σ, setL (openB C q) n i s) := by
    intro n
    induction n with
    | zero => intro i s e h0; rw [b_County_roadsOpenTo_4 _ _ _ _ _ _ _ k.1, x1 k.2.1, decide_eq_true (by omega)]; rfl
    | succ n ih =>
      intro i s e h0
      rw [b_County_roadsOpenTo_4 _ _ _ _ _ _ _ k.1, x1 k.2.1, decide_eq_false (by omega), cond_false, x_dead k (by omega) q0 q1, Option.bind_some]
      simp only [dec1]
      cases hd : deadB C q
      · rw [cond_false, minb_t q0 (by omega), cond_true, x9 k.2.1 q q0 q1, x_touch k (by omega) h0 (by omega), Option.bind_some, mw (by omega) (by omega), setL]
        simp only [dec0, x_cross k (show 1 ≤ d + 1 by omega) q0 q1 h0 (show i < C 1 0 by omega), Option.bind_some]
        rw [ih (i + 1) s (by omega) (by omega), ih (i + 1) (mor s (mshl 1 i)) (by omega) (by omega)]
        unfold openB
        rw [hd]
        cases touchB C i (C 9 q) <;> cases crossB C q i <;> rfl
      · rw [setL_no (P := openB C q) (n + 1) i s (fun j _ _ => by unfold openB; rw [hd]; rfl)]
        rfl
  exact this _ 0 0 (by omega) (by omega)
theorem x_living {Ln : Nat} {σ : mmSt} {a : Nat} {C : Cty} (k : KX σ a C) {D : Nat} (hD : 2 ≤ D) : srun (lyT Ln) (D, 37, 0, [mR a, mJ, mJ], [], σ) = some (σ, cntL (fun q => !deadB C q) (Int.toNat (C 2 0)) 0 0) := by
  obtain ⟨d, rfl⟩ := Nat.exists_eq_add_of_le' hD
  have w := k.2.2.1
  rw [b_County_living _ _ _ _ k.1]
  have : ∀ (n : Nat) (i s : Int), i + n = C 2 0 → 0 ≤ i → 0 ≤ s → s ≤ i → srun (lyT Ln) (d + 2, 37, 4, [mR a, mI s, mI i], [], σ) = some (σ, cntL (fun q => !deadB C q) n i s) := by
    intro n
    induction n with
    | zero => intro i s e h0 s0 s1; rw [b_County_living_4 _ _ _ _ _ _ k.1, x2 k.2.1, decide_eq_true (by omega)]; rfl
    | succ n ih =>
      intro i s e h0 s0 s1
      rw [b_County_living_4 _ _ _ _ _ _ k.1, x2 k.2.1, decide_eq_false (by omega), cond_false, x_dead k (by omega) h0 (by omega), Option.bind_some, mw (z := i + 1) (by omega) (by omega), mw (z := s + 1) (by omega) (by omega), cntL]
      simp only [dec1]
      rw [ih (i + 1) s (by omega) (by omega) (by omega) (by omega), ih (i + 1) (s + 1) (by omega) (by omega) (by omega) (by omega)]
      cases deadB C i <;> rfl
  exact this _ 0 0 (by omega) (by omega) (by omega) (by omega)
theorem m_living {Ln : Nat} {σ : mmSt} {a : Nat} {C : Cty} (k : KM σ a C) {D : Nat} (hD : 3 ≤ D) : srun (lyT Ln) (D, 194, 0, [mR a, mJ, mJ], [], σ) = some (σ, cntL (fun q => !deadB C q) (Int.toNat (C 2 0)) 0 0) := by
  obtain ⟨d, rfl⟩ := Nat.exists_eq_add_of_le' hD
  have w := k.2.2.1
  rw [b_M_alive _ _ _ _ k.1]
  have : ∀ (n : Nat) (i s : Int), i + n = C 2 0 → 0 ≤ i → 0 ≤ s → s ≤ i → srun (lyT Ln) (d + 3, 194, 4, [mR a, mI s, mI i], [], σ) = some (σ, cntL (fun q => !deadB C q) n i s) := by
    intro n
    induction n with
    | zero => intro i s e h0 s0 s1; rw [b_M_alive_4 _ _ _ _ _ _ k.1, m2 k.2.1, decide_eq_true (by omega)]; rfl
    | succ n ih =>
      intro i s e h0 s0 s1
      rw [b_M_alive_4 _ _ _ _ _ _ k.1, m2 k.2.1, decide_eq_false (by omega), cond_false, m_alive k (by omega) h0 (by omega), Option.bind_some, mw (z := i + 1) (by omega) (by omega), mw (z := s + 1) (by omega) (by omega), mw (z := s + 0) (by omega) (by omega), cntL]
      simp only [dec0]
      rw [Int.add_zero, ih (i + 1) s (by omega) (by omega) (by omega) (by omega), ih (i + 1) (s + 1) (by omega) (by omega) (by omega) (by omega)]
      cases deadB C i <;> rfl
  exact this _ 0 0 (by omega) (by omega) (by omega) (by omega)
/-! the calls' frame -/
theorem now_b {C : Cty} (h : NoC C ∨ Good C) : 0 ≤ C 0 0 ∧ C 0 0 ≤ 7 ∧ 0 ≤ C 1 0 ∧ C 1 0 ≤ 7 ∧ 0 ≤ C 2 0 ∧ C 2 0 ≤ 5 := by
  rcases h with h | h
  · have := h.1; have := h.2.1; have := h.2.2.1; omega
  · have := h.1.1; omega
theorem now_q {C : Cty} {q : Int} (h : NoC C ∨ Good C) (hq : inB q (C 2 0) = true) : Good C := by
  have := inB_t hq
  rcases h with h | h
  · have := h.2.2.1; omega
  · exact h
theorem now_r {C : Cty} {q : Int} (h : NoC C ∨ Good C) (hq : inB q (C 1 0) = true) : Good C := by
  have := inB_t hq
  rcases h with h | h
  · have := h.2.1; omega
  · exact h
theorem now_p {C : Cty} {q : Int} (h : NoC C ∨ Good C) (hq : inB q (C 0 0) = true) : Good C := by
  have := inB_t hq
  rcases h with h | h
  · have := h.1; omega
  · exact h
theorem now_t {C : Cty} (h : NoC C ∨ Good C) (hq : decide (0 < C 0 0) = true) : Good C := by
  have := of_decide_eq_true hq
  rcases h with h | h
  · have := h.1; omega
  · exact h
theorem c48 : cnty 48 := .inr (.inl rfl)
theorem c58 : cnty 58 := .inr (.inr (.inl rfl))
theorem good_W {C : Cty} (h : Good C) : WF 12 C := WF_le h.1 (by omega)
theorem good_X {σ : mmSt} {C : Cty} (h : rep 12 (cX σ 48) C) (g : Good C) : KX σ 48 C := ⟨c48, h, good_W g⟩
theorem good_M {σ : mmSt} {C : Cty} (h : rep 12 (cM (σ 96)) C) (g : Good C) : KM σ 96 C := ⟨.inl rfl, h, good_W g⟩
theorem thr {σ : mmSt} {C : Cty} (h : rep 12 (cM (σ 96)) C) : rep 12 (cM ((mup σ 92 0 0) 96)) C := rep_M_of (fun _ => mup_ne (by omega)) h
theorem q0 {σ : mmSt} : quiet σ (mup σ 92 0 0) := quiet_up (by unfold scr; omega)
theorem cok_v {Ln mx mm : Nat} {Lx Lm : List mmV} (v : Cty → Int) (X : ∀ σ C, Now σ C → ∃ σ1, srun (lyT Ln) (99, mx, 0, Lx, [], σ) = some (σ1, v C) ∧ quiet σ σ1) (M : ∀ σ C, Now σ C → ∃ σ1, srun (lyT Ln) (99, mm, 0, Lm, [], σ) = some (σ1, v C) ∧ quiet σ σ1) : cok Rel Ln mx mm Lx Lm :=
  cok_of (fun σ C _ hN _ => by
    obtain ⟨σ1, e, q⟩ := X σ C hN
    exact ⟨v C, σ1, e, q, fun τ hτ => M τ C (Now_quiet hτ hN)⟩)
