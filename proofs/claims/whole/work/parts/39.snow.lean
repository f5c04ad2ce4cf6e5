/-! snow: bits and weights -/
def subB (o s : Int) : Bool := decide (mand s (mxor o (-1)) = 0)
def popN (s : Nat) : Nat := s % 2 + s / 2 % 2 + s / 4 % 2 + s / 8 % 2 + s / 16 % 2 + s / 32 % 2 + s / 64 % 2
theorem subF : ∀ (o s : Fin 128), subB (o.val : Int) (s.val : Int) = Nat.beq (Nat.land s.val o.val) s.val := by decide +kernel
theorem popNF : ∀ s : Fin 128, pop (s.val : Int) = (popN s.val : Int) := by decide +kernel
theorem popDF : ∀ (o s : Fin 128), Nat.beq (Nat.land s.val o.val) s.val = true → (0 ≤ mand (o.val : Int) (mxor (s.val : Int) (-1)) ∧ mand (o.val : Int) (mxor (s.val : Int) (-1)) < 128) ∧ pop (mand (o.val : Int) (mxor (s.val : Int) (-1))) = ((popN o.val - popN s.val : Nat) : Int) := by decide +kernel
theorem sub_leF : ∀ (o s : Fin 128), Nat.beq (Nat.land s.val o.val) s.val = true → s.val ≤ o.val := by decide +kernel
def belN (c o : Nat) : Nat → Nat → Nat → Nat
  | 0, _, a => a
  | n + 1, s, a => belN c o n (s + 1) (bif Nat.beq (Nat.land s o) s then a + c ^ popN s * (10 - c) ^ (popN o - popN s) else a)
theorem belF : ∀ (c : Fin 11) (o : Fin 128), belN c.val o.val (o.val + 1) 0 0 = 10 ^ popN o.val := by decide +kernel
def wC (c o s : Int) : Int := c ^ Int.toNat (pop s) * (10 - c) ^ Int.toNat (pop (mand o (mxor s (-1))))
theorem w_nat {c o s : Nat} (hc : c ≤ 10) (ho : o < 128) (hs : s < 128) (h : subB (o : Int) (s : Int) = true) : wC (c : Int) (o : Int) (s : Int) = ((c ^ popN s * (10 - c) ^ (popN o - popN s) : Nat) : Int) := by
  have h' := h
  rw [subF ⟨o, ho⟩ ⟨s, hs⟩] at h'
  have p := popDF ⟨o, ho⟩ ⟨s, hs⟩ h'
  have q := popNF ⟨s, hs⟩
  unfold wC
  rw [show pop (s : Int) = (popN s : Int) from q, show pop (mand (o : Int) (mxor (s : Int) (-1))) = ((popN o - popN s : Nat) : Int) from p.2, Int.toNat_natCast, Int.toNat_natCast, Int.natCast_mul, Int.natCast_pow, Int.natCast_pow, Int.ofNat_sub hc]
  rfl
def aboveL (P : Int → Bool) (c o : Int) : Nat → Int → Int → Int
  | 0, _, a => a
  | n + 1, s, a => aboveL P c o n (s + 1) (bif subB o s && P s then a + wC c o s else a)
theorem bel_int {c o : Nat} (hc : c ≤ 10) (ho : o < 128) : ∀ (n s a : Nat), s + n ≤ 128 → aboveL (fun _ => true) (c : Int) (o : Int) n (s : Int) (a : Int) = (belN c o n s a : Int) := by
  intro n
  induction n with
  | zero => intro s a _; rfl
  | succ n ih =>
    intro s a h
    rw [aboveL, belN]
    have e := subF ⟨o, ho⟩ ⟨s, by omega⟩
    have e' : subB (o : Int) (s : Int) = Nat.beq (Nat.land s o) s := e
    cases hb : Nat.beq (Nat.land s o) s
    · rw [hb] at e'
      rw [e']
      exact ih (s + 1) a (by omega)
    · rw [hb] at e'
      rw [w_nat hc ho (show s < 128 by omega) e', e']
      exact ih (s + 1) (a + c ^ popN s * (10 - c) ^ (popN o - popN s)) (by omega)
theorem bel_all {c o : Int} (c0 : 0 ≤ c) (c1 : c ≤ 10) (o0 : 0 ≤ o) (o1 : o < 128) : aboveL (fun _ => true) c o (Int.toNat (o + 1)) 0 0 = 10 ^ Int.toNat (pop o) := by
  have a := bel_int (c := Int.toNat c) (o := Int.toNat o) (by omega) (by omega) (Int.toNat o + 1) 0 0 (by omega)
  rw [Int.toNat_of_nonneg c0, Int.toNat_of_nonneg o0] at a
  have b := belF ⟨Int.toNat c, by omega⟩ ⟨Int.toNat o, by omega⟩
  have q := popNF ⟨Int.toNat o, by omega⟩
  have q' : pop o = (popN (Int.toNat o) : Int) := by rw [← q]; show pop o = pop ((Int.toNat o : Nat) : Int); rw [Int.toNat_of_nonneg o0]
  rw [show Int.toNat (o + 1) = Int.toNat o + 1 by omega]
  refine a.trans ?_
  rw [show belN (Int.toNat c) (Int.toNat o) (Int.toNat o + 1) 0 0 = 10 ^ popN (Int.toNat o) from b, q', Int.toNat_natCast, Int.natCast_pow]; rfl
theorem above_tail {P : Int → Bool} {c o : Int} (o0 : 0 ≤ o) (o1 : o < 128) : ∀ (n : Nat) (s a : Int), o < s → s + n ≤ 128 → aboveL P c o n s a = a := by
  intro n
  induction n with
  | zero => intro s a _ _; rfl
  | succ n ih =>
    intro s a h h2
    have e := subF ⟨Int.toNat o, by omega⟩ ⟨Int.toNat s, by omega⟩
    rw [Int.toNat_of_nonneg o0, Int.toNat_of_nonneg (by omega)] at e
    have l := sub_leF ⟨Int.toNat o, by omega⟩ ⟨Int.toNat s, by omega⟩
    rw [aboveL]
    cases hb : Nat.beq (Nat.land (Int.toNat s) (Int.toNat o)) (Int.toNat s)
    · rw [show subB o s = false from e.trans hb]
      exact ih (s + 1) a (by omega) (by omega)
    · have := l hb
      have : Int.toNat s ≤ Int.toNat o := this
      omega
theorem above_add {P : Int → Bool} {c o : Int} : ∀ (n m : Nat) (s a : Int), aboveL P c o (n + m) s a = aboveL P c o m (s + n) (aboveL P c o n s a) := by
  intro n
  induction n with
  | zero => intro m s a; rw [Nat.zero_add, show s + ((0 : Nat) : Int) = s by omega]; rfl
  | succ n ih =>
    intro m s a
    rw [show n + 1 + m = (n + m) + 1 by omega, aboveL, aboveL, ih, show s + 1 + (n : Int) = s + ((n + 1 : Nat) : Int) by omega]
theorem pw_in {b : Int} (b0 : 0 ≤ b) (b1 : b ≤ 10) : ∀ n : Nat, 0 ≤ b ^ n ∧ b ^ n ≤ 10 ^ n := by
  intro n
  induction n with
  | zero => exact ⟨by rw [Int.pow_zero]; decide, by rw [Int.pow_zero, Int.pow_zero]; exact Int.le_refl _⟩
  | succ n ih =>
    rw [Int.pow_succ, Int.pow_succ]
    exact ⟨Int.mul_nonneg ih.1 b0, Int.mul_le_mul ih.2 b1 b0 (by omega)⟩
theorem p10_7 : ∀ n : Nat, n ≤ 7 → (10 : Int) ^ n ≤ 10000000 := by
  intro n hn
  have h : n = 0 ∨ n = 1 ∨ n = 2 ∨ n = 3 ∨ n = 4 ∨ n = 5 ∨ n = 6 ∨ n = 7 := by omega
  rcases h with rfl | rfl | rfl | rfl | rfl | rfl | rfl | rfl <;> decide
theorem p10_0 : ∀ n : Nat, (0 : Int) < 10 ^ n := fun n => Int.pow_pos (by decide)
theorem x_power {Ln : Nat} {σ : mmSt} {b n : Int} (b0 : 0 ≤ b) (b1 : b ≤ 10) (n0 : 0 ≤ n) (n1 : n ≤ 7) {D : Nat} (hD : 1 ≤ D) : srun (lyT Ln) (D, 103, 0, [mI b, mI n, mJ, mJ, mJ], [], σ) = some (σ, b ^ Int.toNat n) := by
  obtain ⟨d, rfl⟩ := Nat.exists_eq_add_of_le' hD
  rw [b_Seer_power]
  have L : ∀ (m : Nat) (z : Int) (k : Nat), z = (k : Int) → z + m = n → srun (lyT Ln) (d + 1, 103, 4, [mI b, mI n, mL (b ^ k), mJ, mI z], [], σ) = some (σ, b ^ Int.toNat n) := by
    intro m
    induction m with
    | zero =>
      intro z k hz e
      rw [b_Seer_power_4, decide_eq_true (by omega), cond_true, show k = Int.toNat n by omega]
    | succ m ih =>
      intro z k hz e
      have p := pw_in b0 b1 k
      have q := p10_7 k (by omega)
      have r := pw_in b0 b1 (k + 1)
      have t := p10_7 (k + 1) (by omega)
      rw [b_Seer_power_4, decide_eq_false (by omega), cond_false, mw (by omega) (by omega), show b ^ k * b = b ^ (k + 1) from (Int.pow_succ b k).symm, mwl (by omega) (by omega)]
      exact ih (z + 1) (k + 1) (by omega) (by omega)
  have l0 := L (Int.toNat n) 0 0 rfl (by omega)
  rw [Int.pow_zero] at l0
  exact l0
theorem sub_facts {o s : Int} (o0 : 0 ≤ o) (o1 : o < 128) (s0 : 0 ≤ s) (s1 : s < 128) (h : subB o s = true) : 0 ≤ mand o (mxor s (-1)) ∧ mand o (mxor s (-1)) < 128 ∧ pop s + pop (mand o (mxor s (-1))) ≤ 7 ∧ s ≤ o := by
  have e := subF ⟨Int.toNat o, by omega⟩ ⟨Int.toNat s, by omega⟩
  rw [Int.toNat_of_nonneg o0, Int.toNat_of_nonneg s0] at e
  have hb := e.symm.trans h
  have p := popDF ⟨Int.toNat o, by omega⟩ ⟨Int.toNat s, by omega⟩ hb
  have l := sub_leF ⟨Int.toNat o, by omega⟩ ⟨Int.toNat s, by omega⟩ hb
  have q := popNF ⟨Int.toNat s, by omega⟩
  rw [Int.toNat_of_nonneg o0, Int.toNat_of_nonneg s0] at p
  rw [Int.toNat_of_nonneg s0] at q
  have po := popNF ⟨Int.toNat o, by omega⟩
  rw [Int.toNat_of_nonneg o0] at po
  have p7 := pop_in o0 o1
  have ps := pop_in s0 s1
  have pd := pop_in p.1.1 p.1.2
  have l' : Int.toNat s ≤ Int.toNat o := l
  refine ⟨p.1.1, p.1.2, ?_, by omega⟩
  have u : pop (mand o (mxor s (-1))) = ((popN (Int.toNat o) - popN (Int.toNat s) : Nat) : Int) := p.2
  have u2 : pop s = (popN (Int.toNat s) : Int) := q
  have u3 : pop o = (popN (Int.toNat o) : Int) := po
  by_cases c : popN (Int.toNat s) ≤ popN (Int.toNat o)
  · omega
  · omega
theorem w_in {c o s : Int} (c0 : 0 ≤ c) (c1 : c ≤ 10) (o0 : 0 ≤ o) (o1 : o < 128) (s0 : 0 ≤ s) (s1 : s < 128) (h : subB o s = true) : 0 ≤ wC c o s ∧ wC c o s ≤ 10000000 := by
  have f := sub_facts o0 o1 s0 s1 h
  have ps := pop_in s0 s1
  have pd := pop_in f.1 f.2.1
  have a := pw_in c0 c1 (Int.toNat (pop s))
  have b := pw_in (show 0 ≤ 10 - c by omega) (by omega) (Int.toNat (pop (mand o (mxor s (-1)))))
  have t := p10_7 (Int.toNat (pop s) + Int.toNat (pop (mand o (mxor s (-1))))) (by omega)
  rw [Int.pow_add] at t
  unfold wC
  have z := p10_0 (Int.toNat (pop (mand o (mxor s (-1)))))
  exact ⟨Int.mul_nonneg a.1 b.1, Int.le_trans (Int.mul_le_mul a.2 b.2 b.1 (by have := p10_0 (Int.toNat (pop s)); omega)) t⟩
theorem x_cases {Ln : Nat} {σ : mmSt} {c o s : Int} (c0 : 0 ≤ c) (c1 : c ≤ 10) (o0 : 0 ≤ o) (o1 : o < 128) (s0 : 0 ≤ s) (s1 : s < 128) (h : subB o s = true) {D : Nat} (hD : 2 ≤ D) : srun (lyT Ln) (D, 101, 0, [mI s, mI o, mI c, mJ], [], σ) = some (σ, wC c o s) := by
  obtain ⟨d, rfl⟩ := Nat.exists_eq_add_of_le' hD
  have f := sub_facts o0 o1 s0 s1 h
  have ps := pop_in s0 s1
  have pd := pop_in f.1 f.2.1
  have wi := w_in c0 c1 o0 o1 s0 s1 h
  rw [b_Seer_casesOf, x_bitc (by omega) f.1 f.2.1, Option.bind_some]
  simp only [x_bitc (show 1 ≤ d + 1 by omega) s0 s1, Option.bind_some, x_power c0 c1 ps.1 ps.2 (show 1 ≤ d + 1 by omega), mw (show -2147483648 ≤ 10 - c by omega) (show 10 - c < 2147483648 by omega), x_power (show 0 ≤ 10 - c by omega) (show 10 - c ≤ 10 by omega) pd.1 pd.2 (show 1 ≤ d + 1 by omega)]
  show some (σ, mwrapL (wC c o s)) = _
  rw [mwl (by omega) (by omega)]
def barC (C : Cty) : Int := setL (fun r => decide (0 < C 7 r)) (Int.toNat (C 1 0)) 0 0
theorem set_in {P : Int → Bool} {M : Int} (M0 : 0 ≤ M) (M7 : M ≤ 7) : ∀ (n : Nat) (r s : Int), r + n = M → 0 ≤ r → inP M s → inP M (setL P n r s) := by
  intro n
  induction n with
  | zero => intro r s _ _ h; exact h
  | succ n ih =>
    intro r s e r0 h
    rw [setL]
    cases P r
    · exact ih (r + 1) s (by omega) (by omega) h
    · exact ih (r + 1) _ (by omega) (by omega) (mor_in M0 M7 h (shl_in M7 r0 (by omega)))
theorem inP_0 (M : Int) : inP M 0 := by
  refine ⟨by omega, ?_⟩
  have : 0 < 2 ^ Int.toNat M := Nat.pow_pos (by decide)
  omega
theorem bar_in {g : Int} {C : Cty} (w : WF g C) : inP (C 1 0) (barC C) ∧ 0 ≤ barC C ∧ barC C < 128 := by
  have wf := w.1
  have a := set_in (P := fun r => decide (0 < C 7 r)) (show 0 ≤ C 1 0 by omega) (by omega) (Int.toNat (C 1 0)) 0 0 (by omega) (by omega) (inP_0 _)
  exact ⟨a, inP_7 (by omega) (by omega) a⟩
theorem x_bars {Ln : Nat} {σ : mmSt} {C : Cty} (h : rep 12 (cX σ 48) C) (w : WF 12 C) {D : Nat} (hD : 1 ≤ D) : srun (lyT Ln) (D, 98, 0, [mR 47, mJ, mJ], [], σ) = some (σ, barC C) := by
  obtain ⟨d, rfl⟩ := Nat.exists_eq_add_of_le' hD
  have wf := w.1
  rw [b_Seer_roadsWithBars]
  have : ∀ (n : Nat) (r s : Int), r + n = C 1 0 → 0 ≤ r → srun (lyT Ln) (d + 1, 98, 4, [mR 47, mI s, mI r], [], σ) = some (σ, setL (fun r => decide (0 < C 7 r)) n r s) := by
    intro n
    induction n with
    | zero => intro r s e _; rw [b_Seer_roadsWithBars_4, x1 h, decide_eq_true (by omega)]; rfl
    | succ n ih =>
      intro r s e r0
      rw [b_Seer_roadsWithBars_4, x1 h, decide_eq_false (by omega), cond_false, minb_t r0 (by omega), cond_true, show σ 52 (Int.toNat r) = C 7 r from x7 h r r0 (by omega), mw (by omega) (by omega), dle, setL, ih (r + 1) s (by omega) (by omega), ih (r + 1) (mor s (mshl 1 r)) (by omega) (by omega)]
      cases decide (0 < C 7 r) <;> rfl
  exact this (Int.toNat (C 1 0)) 0 0 (by omega) (by omega)
theorem x_all {Ln : Nat} {σ : mmSt} {C : Cty} (h : rep 12 (cX σ 48) C) (w : WF 12 C) {D : Nat} (hD : 2 ≤ D) : srun (lyT Ln) (D, 99, 0, [mR 47], [], σ) = some (σ, 10 ^ Int.toNat (pop (barC C))) := by
  obtain ⟨d, rfl⟩ := Nat.exists_eq_add_of_le' hD
  have bi := bar_in w
  have ps := pop_in bi.2.1 bi.2.2
  rw [b_Seer_allCases, x_bars h w (by omega), Option.bind_some]
  simp only [x_bitc (show 1 ≤ d + 1 by omega) bi.2.1 bi.2.2, Option.bind_some, x_power (show (0 : Int) ≤ 10 by omega) (show (10 : Int) ≤ 10 by omega) ps.1 ps.2 (show 1 ≤ d + 1 by omega)]
def thB (C : Cty) (q p n s : Int) : Bool := livesB (yearsC (Int.toNat n) (gridL s 0 (Int.toNat (C 1 0)) 0 (zt C))) q p
theorem x_there {Ln : Nat} {σ : mmSt} {C : Cty} (h : rep 12 (cX σ 48) C) (w : WF 12 C) {s q p N : Int} (q0 : 0 ≤ q) (q1 : q < C 2 0) (N0 : 0 ≤ N) (N1 : N ≤ 60) {D : Nat} (hD : 6 ≤ D) : ∃ σ', srun (lyT Ln) (D, 102, 0, [mR 47, mI s, mI q, mI p, mI N], [], σ) = some (σ', b2i (thB C q p N s)) ∧ frX 58 σ σ' := by
  obtain ⟨d, rfl⟩ := Nat.exists_eq_add_of_le' hD
  obtain ⟨σ1, e1, k1, f1⟩ := x_begin (Ln := Ln) h w (show 2 ≤ d + 5 by omega)
  obtain ⟨σ2, e2, k2, f2⟩ := x_grids (Ln := Ln) (s := s) (show (0 : Int) ≤ 0 by omega) (by omega) (show 2 ≤ d + 5 by omega) k1
  obtain ⟨σ3, e3, k3, f3⟩ := x_pass (Ln := Ln) (show 5 ≤ d + 5 by omega) N0 (by omega) k2
  rw [b_Seer_isThereIfFilled, e1, Option.bind_some]
  simp only [e2, e3, Option.bind_some, x_lives (KY_X k3) (show 2 ≤ d + 5 by omega) q0 (show q < yearsC (Int.toNat N) (gridL s 0 (Int.toNat (zt C 1 0)) 0 (zt C)) 2 0 by rw [years_nf _ _ (by omega) (by omega) (by omega), grid_nf _ _ _ (by omega)]; exact q1), dec01, cond_true]
  exact ⟨σ3, rfl, frX_trans f1 (frX_trans f2 f3)⟩
theorem x_snowL {Ln : Nat} {C : Cty} (w : WF 12 C) {q p N c : Int} (q0 : 0 ≤ q) (q1 : q < C 2 0) (N0 : 0 ≤ N) (N1 : N ≤ 60) (c0 : 0 ≤ c) (c1 : c ≤ 10) {D : Nat} (hD : 7 ≤ D) : ∀ (n : Nat) (s a : Int) (σ : mmSt) (v : mmV), rep 12 (cX σ 48) C → s + n = ((2 ^ Int.toNat (C 1 0) : Nat) : Int) → 0 ≤ s → 0 ≤ a → a ≤ 10000000 * s → ∃ σ', srun (lyT Ln) (D, 100, 7, [mR 47, mI q, mI p, mI N, mI c, mI (barC C), mL a, mJ, mI s, v, mJ], [], σ) = some (σ', aboveL (thB C q p N) c (barC C) n s a) ∧ frX 58 σ σ' := by
  obtain ⟨d, rfl⟩ := Nat.exists_eq_add_of_le' hD
  have wf := w.1
  have bi := bar_in w
  have sh := shl_1 (show 0 ≤ C 1 0 by omega) (by omega)
  have p7 := pow_7 (show 0 ≤ C 1 0 by omega) (by omega)
  intro n
  induction n with
  | zero =>
    intro s a σ v h e s0 a0 a1
    rw [b_Seer_snowyCases_7, x1 h, sh, decide_eq_true (by omega)]
    exact ⟨σ, rfl, frX_rfl _ _⟩
  | succ n ih =>
    intro s a σ v h e s0 a0 a1
    rw [b_Seer_snowyCases_7, x1 h, sh, decide_eq_false (by omega), cond_false, mw (by omega) (by omega), aboveL, dne]
    cases hs : subB (barC C) s
    · have hs' : decide (mand s (mxor (barC C) (-1)) = 0) = false := hs
      obtain ⟨σ2, e2, f2⟩ := ih (s + 1) a σ (mL 0) h (by omega) (by omega) a0 (by omega)
      rw [hs', Bool.not_false, cond_true, mlc_le, decide_eq_true (show (0 : Int) ≤ 0 by omega)]
      exact ⟨σ2, e2, f2⟩
    · have hs' : decide (mand s (mxor (barC C) (-1)) = 0) = true := hs
      have wi := w_in c0 c1 bi.2.1 bi.2.2 s0 (show s < 128 by omega) hs
      rw [hs', Bool.not_true, cond_false, x_cases c0 c1 bi.2.1 bi.2.2 s0 (by omega) hs (by omega), Option.bind_some]
      simp only [mlc_le]
      by_cases cz : wC c (barC C) s ≤ 0
      · rw [decide_eq_true cz, cond_true, show wC c (barC C) s = 0 by omega, Int.add_zero]
        obtain ⟨σ2, e2, f2⟩ := ih (s + 1) a σ (mL 0) h (by omega) (by omega) a0 (by omega)
        refine ⟨σ2, e2.trans ?_, f2⟩
        cases thB C q p N s <;> rfl
      · obtain ⟨σ1, e1, f1⟩ := x_there (Ln := Ln) (s := s) (p := p) h w q0 q1 N0 N1 (show 6 ≤ d + 6 by omega)
        have h1 : rep 12 (cX σ1 48) C := rep_X48 (fun b j _ _ => f1 b j (by omega)) h
        rw [decide_eq_false cz, cond_false, e1, Option.bind_some]
        simp only [dec0, mwl (show -9223372036854775808 ≤ a + wC c (barC C) s by omega) (show a + wC c (barC C) s < 9223372036854775808 by omega)]
        obtain ⟨σ2, e2, f2⟩ := ih (s + 1) a σ1 (mL (wC c (barC C) s)) h1 (by omega) (by omega) a0 (by omega)
        obtain ⟨σ3, e3, f3⟩ := ih (s + 1) (a + wC c (barC C) s) σ1 (mL (wC c (barC C) s)) h1 (by omega) (by omega) (by omega) (by omega)
        cases thB C q p N s
        · exact ⟨σ2, e2, frX_trans f1 f2⟩
        · exact ⟨σ3, e3, frX_trans f1 f3⟩
