/-! shuts -/
theorem goL_hay {C : Cty} {q h : Int} : ∀ (n : Nat) (r b : Int), C 4 b ≤ C 4 (goesL C q h n r b) ∧ (goesL C q h n r b = b ∨ C 4 b < C 4 (goesL C q h n r b)) := by
  intro n
  induction n with
  | zero => intro r b; exact ⟨Int.le_refl _, .inl rfl⟩
  | succ n ih =>
    intro r b
    rw [goesL]
    cases hc : (touchB C r h && crossB C q r && decide (C 4 b < C 4 (farC C r h)))
    · exact ih (r + 1) b
    · have := ih (r + 1) (farC C r h)
      have c : C 4 b < C 4 (farC C r h) := by
        rw [Bool.and_eq_true] at hc
        exact of_decide_eq_true hc.2
      rw [cond_true]
      omega
theorem goes_hay {g : Int} {C : Cty} (w : WF g C) {q : Int} (q0 : 0 ≤ q) (q1 : q < C 2 0) (h : goesC C q ≠ C 9 q) : 0 < C 4 (goesC C q) := by
  have w9 := w.2.2.2 q q0 q1
  have w0 := w.1
  have wh := w.2.1 (C 9 q) (by omega) (by omega)
  unfold goesC at h ⊢
  cases hc : (deadB C q || stayB C q)
  · rw [hc] at h
    have := goL_hay (C := C) (q := q) (h := C 9 q) (Int.toNat (C 1 0)) 0 (C 9 q)
    rw [cond_false] at h ⊢
    omega
  · rw [hc] at h
    exact absurd rfl h
theorem eat_9 (C : Cty) (q i : Int) : eatC C q 9 i = C 9 i := eat_nf C q (by omega) (by omega) (by omega) (by omega)
theorem step_9 {C : Cty} {q i : Int} (h : i ≠ q) : stepC C q 9 i = C 9 i := by
  unfold stepC
  cases deadB C q
  · show eatC _ q 9 i = _
    rw [eat_9]
    unfold walkC
    split
    · rfl
    · rw [cup_ni h, cup_nf (by omega)]
  · rfl
theorem step_10 {C : Cty} {q i : Int} (h : i ≠ q) : stepC C q 10 i = C 10 i := by
  unfold stepC
  cases deadB C q
  · show eatC (walkC C q (goesC C q)) q 10 i = _
    have e : walkC C q (goesC C q) 10 i = C 10 i := walk_nf _ _ _ (by omega) (by omega)
    unfold eatC
    split
    · rw [cup_ni h, e]
    · rw [cup_nf (by omega), cup_nf (by omega), cup_ni h, cup_nf (by omega), e]
  · rfl
theorem step_dead {C : Cty} {q : Int} (h : deadB C q = true) : stepC C q = C := by
  unfold stepC
  rw [h]; rfl
theorem step_move {g : Int} {C : Cty} (w : WF g C) {q p : Int} (q0 : 0 ≤ q) (q1 : q < C 2 0) (h : C 9 q ≠ p) (h2 : stepC C q 9 q = p) : deadB (stepC C q) q = false := by
  cases hd : deadB C q
  · have sc : stepC C q = eatC (walkC C q (goesC C q)) q := by unfold stepC; rw [hd]; rfl
    rw [sc] at h2 ⊢
    rw [eat_9, walk_at] at h2
    have gh := goes_hay w q0 q1 (by rw [h2]; exact fun e => h e.symm)
    have hs : ¬ C 10 q = 0 := by unfold deadB at hd; simpa using hd
    have w9 := w.2.2.2 q q0 q1
    have e10 : walkC C q (goesC C q) 10 q = C 10 q := walk_nf _ _ _ (by omega) (by omega)
    have e4 : ∀ i, walkC C q (goesC C q) 4 i = C 4 i := fun i => walk_nf _ _ _ (by omega) (by omega)
    have e : eatC (walkC C q (goesC C q)) q 10 q = mmini 9 (C 10 q + if walkC C q (goesC C q) 8 q = 3 then 2 else 1) := by
      unfold eatC
      rw [walk_at, e4, if_neg (by omega), cup_nf (by omega), cup_nf (by omega), cup_eq, e10]
    unfold deadB
    rw [e]
    refine decide_eq_false ?_
    unfold mmini
    split <;> split <;> omega
  · rw [step_dead hd] at h2
    exact absurd h2 h
theorem yearL_after : ∀ (n : Nat) (i : Int) (C : Cty) {q : Int}, q < i → yearL n i C 9 q = C 9 q ∧ yearL n i C 10 q = C 10 q := by
  intro n
  induction n with
  | zero => intro i C q _; exact ⟨rfl, rfl⟩
  | succ n ih =>
    intro i C q h
    have a := ih (i + 1) (stepC C i) (q := q) (by omega)
    exact ⟨a.1.trans (step_9 (by omega)), a.2.trans (step_10 (by omega))⟩
theorem dead_10 {C D : Cty} {q : Int} (h : D 10 q = C 10 q) : deadB D q = deadB C q := by
  unfold deadB
  rw [h]
theorem yearL_dead : ∀ (n : Nat) (i : Int) (C : Cty) {q : Int}, deadB C q = true → deadB (yearL n i C) q = true := by
  intro n
  induction n with
  | zero => intro i C q h; exact h
  | succ n ih =>
    intro i C q h
    refine ih (i + 1) (stepC C i) ?_
    by_cases c : q = i
    · rw [← c, step_dead h]; exact h
    · rw [dead_10 (step_10 c)]; exact h
theorem yearL_move {g : Int} : ∀ (n : Nat) (i : Int) (C : Cty) {q p : Int}, WF g C → 0 ≤ i → i + n = C 2 0 → 0 ≤ q → q < C 2 0 → C 9 q ≠ p → yearL n i C 9 q = p → deadB (yearL n i C) q = false := by
  intro n
  induction n with
  | zero => intro i C q p _ _ _ _ _ h h2; exact absurd h2 h
  | succ n ih =>
    intro i C q p w i0 e q0 q1 h h2
    have s2 : stepC C i 2 0 = C 2 0 := step_nf C i (by omega) (by omega)
    by_cases c : q = i
    · have a := yearL_after n (i + 1) (stepC C i) (q := q) (by omega)
      have h3 : stepC C q 9 q = p := by rw [← h2]; exact (by rw [← c] at a ⊢; exact a.1.symm)
      rw [show yearL (n + 1) i C = yearL n (i + 1) (stepC C i) from rfl, dead_10 a.2, ← c]
      exact step_move w q0 q1 h h3
    · exact ih (i + 1) (stepC C i) (WF_step w i0 (by omega)) (by omega) (by omega) q0 (by omega) (by rw [step_9 c]; exact h) h2
theorem year_dead {C : Cty} {q : Int} (h : deadB C q = true) : deadB (yearC C) q = true := by
  have := yearL_dead (Int.toNat (C 2 0)) 0 C h
  exact (dead_10 (cup_nf (by omega))).trans this
theorem year_move {g : Int} {C : Cty} (w : WF g C) {q p : Int} (q0 : 0 ≤ q) (q1 : q < C 2 0) (h : C 9 q ≠ p) (h2 : yearC C 9 q = p) : deadB (yearC C) q = false := by
  have e : yearC C 9 q = yearL (Int.toNat (C 2 0)) 0 C 9 q := cup_nf (by omega)
  have := yearL_move (Int.toNat (C 2 0)) 0 C w (by omega) (by have := w.1; omega) q0 q1 h (e.symm.trans h2)
  exact (dead_10 (cup_nf (by omega))).trans this
def entL (C D : Cty) (p : Int) : Nat → Int → Bool
  | 0, _ => false
  | n + 1, q => (!decide (C 9 q = p) && decide (D 9 q = p)) || entL C D p n (q + 1)
def entM (C D : Cty) (p : Int) : Nat → Int → Bool
  | 0, _ => false
  | n + 1, q => (!livesB C q p && livesB D q p) || entM C D p n (q + 1)
def eInv (C D : Cty) (p : Int) : Prop := ∀ q, 0 ≤ q → q < C 2 0 → (C 9 q ≠ p → D 9 q ≠ p) ∧ (deadB C q = true → deadB D q = true)
theorem ent_eq {C D : Cty} {p : Int} (w : WF 12 D) (h2 : D 2 0 = C 2 0) (v : eInv C D p) : ∀ (n : Nat) (q : Int), q + n = C 2 0 → 0 ≤ q → entL C (yearC D) p n q = entM C (yearC D) p n q := by
  intro n
  induction n with
  | zero => intro q _ _; rfl
  | succ n ih =>
    intro q e q0
    rw [entL, entM, ih (q + 1) (by omega) (by omega)]
    congr 1
    have vq := v q q0 (by omega)
    unfold livesB
    by_cases c : C 9 q = p
    · rw [decide_eq_true c]
      cases hd : deadB C q
      · rfl
      · rw [year_dead (vq.2 hd)]; rfl
    · rw [decide_eq_false c]
      by_cases c2 : yearC D 9 q = p
      · rw [decide_eq_true c2, year_move w q0 (by omega) (vq.1 c) c2]
        cases deadB C q <;> rfl
      · rw [decide_eq_false c2]
        cases deadB C q <;> cases deadB (yearC D) q <;> rfl
theorem ent_no {C D : Cty} {p : Int} : ∀ (n : Nat) (q : Int), entL C D p n q = false → ∀ j, q ≤ j → j < q + n → C 9 j ≠ p → D 9 j ≠ p := by
  intro n
  induction n with
  | zero => intro q _ j a b; omega
  | succ n ih =>
    intro q h j a b hc hd
    rw [entL, Bool.or_eq_false_iff] at h
    by_cases c : j = q
    · rw [c] at hc hd
      rw [decide_eq_false hc, decide_eq_true hd] at h
      exact absurd h.1 (by decide)
    · exact ih (q + 1) h.2 j (by omega) (by omega) hc hd
theorem eInv_year {C D : Cty} {p : Int} (v : eInv C D p) (h0 : 0 ≤ C 2 0) (h : entL C (yearC D) p (Int.toNat (C 2 0)) 0 = false) : eInv C (yearC D) p := fun q q0 q1 =>
  ⟨ent_no (Int.toNat (C 2 0)) 0 h q (by omega) (by omega), fun hd => year_dead ((v q q0 q1).2 hd)⟩
def spL (C : Cty) (p : Int) : Nat → Cty → Bool
  | 0, _ => true
  | n + 1, D => bif entL C (yearC D) p (Int.toNat (C 2 0)) 0 then false else spL C p n (yearC D)
def gridL (s g : Int) : Nat → Int → Cty → Cty
  | 0, _, C => C
  | n + 1, r, C => gridL s g n (r + 1) (bif hasB s r then cup C 7 r g else C)
theorem grid_nf {s g : Int} : ∀ (n : Nat) (r : Int) (C : Cty) {f : Nat} {i : Int}, f ≠ 7 → gridL s g n r C f i = C f i := by
  intro n
  induction n with
  | zero => intro r C f i _; rfl
  | succ n ih =>
    intro r C f i h
    rw [gridL, ih _ _ h]
    cases hasB s r
    · rfl
    · exact cup_nf h
theorem x_gridL {Ln : Nat} {s g : Int} (g0 : 0 ≤ g) (g1 : g ≤ 12) {D : Nat} (hD : 2 ≤ D) : ∀ (n : Nat) (r : Int) (σ : mmSt) (C : Cty), KY 15 σ 58 C → r + n = C 1 0 → 0 ≤ r → ∃ σ', srun (lyT Ln) (D, 86, 2, [mR 47, mI s, mI g, mI r], [], σ) = some (σ', 0) ∧ KY 15 σ' 58 (gridL s g n r C) ∧ frX 58 σ σ' := by
  obtain ⟨d, rfl⟩ := Nat.exists_eq_add_of_le' hD
  intro n
  induction n with
  | zero =>
    intro r σ C k e r0
    rw [b_Seer_setGrids_2, x1 (KY_X k).2.1, decide_eq_true (by omega)]
    exact ⟨σ, rfl, k, frX_rfl _ _⟩
  | succ n ih =>
    intro r σ C k e r0
    have w := k.2.2.1.1
    rw [b_Seer_setGrids_2, x1 (KY_X k).2.1, decide_eq_false (by omega), cond_false, x_has (by omega), Option.bind_some, gridL, mw (by omega) (by omega)]
    simp only [dec0]
    cases hasB s r
    · exact ih (r + 1) σ C k (by omega) (by omega)
    · have k1 : KY 15 (mup σ 62 (Int.toNat r) g) 58 (cup C 7 r g) := ⟨k.1, rep_upX (f := 7) (by omega) (by omega) r0 (fun _ => rfl) k.2.1, WF_upd k.2.2.1 (.inr (.inr (.inl ⟨rfl, g0, g1⟩))), k.2.2.2⟩
      obtain ⟨σ2, e2, k2, f2⟩ := ih (r + 1) _ (cup C 7 r g) k1 (by rw [cup_nf (by omega)]; omega) (by omega)
      simp only [Bool.not_true, cond_false, cond_true, minb_t r0 (show r < ((7 : Nat) : Int) by omega)]
      exact ⟨σ2, e2, k2, frX_trans (frX_up (by omega)) f2⟩
theorem x_grids {Ln : Nat} {s g : Int} (g0 : 0 ≤ g) (g1 : g ≤ 12) {D : Nat} (hD : 2 ≤ D) {σ : mmSt} {C : Cty} (k : KY 15 σ 58 C) : ∃ σ', srun (lyT Ln) (D, 86, 0, [mR 47, mI s, mI g, mJ], [], σ) = some (σ', 0) ∧ KY 15 σ' 58 (gridL s g (Int.toNat (C 1 0)) 0 C) ∧ frX 58 σ σ' := by
  obtain ⟨d, rfl⟩ := Nat.exists_eq_add_of_le' hD
  have w := k.2.2.1.1
  rw [b_Seer_setGrids]
  exact x_gridL g0 g1 (by omega) (Int.toNat (C 1 0)) 0 σ C k (by omega) (by omega)
theorem x_ent {Ln : Nat} {C E : Cty} {σ : mmSt} (h : rep 12 (cX σ 48) C) (k : KY 15 σ 58 E) (h2 : E 2 0 = C 2 0) (p : Int) {D : Nat} (hD : 1 ≤ D) : srun (lyT Ln) (D, 87, 0, [mR 47, mI p, mJ], [], σ) = some (σ, b2i (entL C E p (Int.toNat (C 2 0)) 0)) := by
  obtain ⟨d, rfl⟩ := Nat.exists_eq_add_of_le' hD
  have w := k.2.2.1.1
  rw [b_Seer_isEntered]
  have : ∀ (n : Nat) (q : Int), q + n = C 2 0 → 0 ≤ q → srun (lyT Ln) (d + 1, 87, 2, [mR 47, mI p, mI q], [], σ) = some (σ, b2i (entL C E p n q)) := by
    intro n
    induction n with
    | zero => intro q e _; rw [b_Seer_isEntered_2, x2 h, decide_eq_true (by omega)]; rfl
    | succ n ih =>
      intro q e q0
      rw [b_Seer_isEntered_2, x2 h, decide_eq_false (by omega), cond_false, minb_t q0 (by omega), cond_true, cond_true, show σ 54 (Int.toNat q) = C 9 q from x9 h q q0 (by omega), show σ 64 (Int.toNat q) = E 9 q from x9 (KY_X k).2.1 q q0 (by omega), mw (by omega) (by omega), ih (q + 1) (by omega) (by omega), entL, dne]
      cases decide (C 9 q = p) <;> cases decide (E 9 q = p) <;> rfl
  exact this _ 0 (by omega) (by omega)
theorem x_sparL {Ln : Nat} {C : Cty} {s p N : Int} (N1 : N ≤ 100) {D : Nat} (hD : 5 ≤ D) : ∀ (n : Nat) (z : Int) (σ : mmSt) (E : Cty), rep 12 (cX σ 48) C → KY 15 σ 58 E → E 2 0 = C 2 0 → z + n = N → 0 ≤ z → ∃ σ', srun (lyT Ln) (D, 85, 8, [mR 47, mI s, mI p, mI N, mI z], [], σ) = some (σ', b2i (spL C p n E)) ∧ frX 58 σ σ' := by
  obtain ⟨d, rfl⟩ := Nat.exists_eq_add_of_le' hD
  intro n
  induction n with
  | zero =>
    intro z σ E h k h2 e z0
    rw [b_Seer_sparedByShut_8, decide_eq_true (by omega)]
    exact ⟨σ, rfl, frX_rfl _ _⟩
  | succ n ih =>
    intro z σ E h k h2 e z0
    obtain ⟨σ1, e1, k1, f1⟩ := x_year (Ln := Ln) k (show 4 ≤ d + 4 by omega)
    have h1 : rep 12 (cX σ1 48) C := rep_X48 (fun b j _ _ => f1 b j (by omega)) h
    rw [b_Seer_sparedByShut_8, decide_eq_false (by omega), cond_false, e1, Option.bind_some, mw (by omega) (by omega), spL]
    simp only [x_ent h1 k1 (by rw [year_2]; exact h2) p (show 1 ≤ d + 4 by omega), Option.bind_some, dec0]
    obtain ⟨σ2, e2, f2⟩ := ih (z + 1) σ1 (yearC E) h1 k1 (by rw [year_2]; exact h2) (by omega) (by omega)
    cases entL C (yearC E) p (Int.toNat (C 2 0)) 0
    · exact ⟨σ2, e2, frX_trans f1 f2⟩
    · exact ⟨σ1, rfl, f1⟩
def spB (C : Cty) (p n s : Int) : Bool := spL C p (Int.toNat n) (gridL s 12 (Int.toNat (C 1 0)) 0 (zt C))
theorem x_spar {Ln : Nat} {σ : mmSt} {C : Cty} (h : rep 12 (cX σ 48) C) (w : WF 12 C) {s p N : Int} {D : Nat} (hD : 6 ≤ D) (N0 : 0 ≤ N) (N1 : N ≤ 60) : ∃ σ', srun (lyT Ln) (D, 85, 0, [mR 47, mI s, mI p, mI N, mJ], [], σ) = some (σ', b2i (spB C p N s)) ∧ frX 58 σ σ' := by
  obtain ⟨d, rfl⟩ := Nat.exists_eq_add_of_le' hD
  obtain ⟨σ1, e1, k1, f1⟩ := x_begin (Ln := Ln) h w (show 2 ≤ d + 5 by omega)
  obtain ⟨σ2, e2, k2, f2⟩ := x_grids (Ln := Ln) (s := s) (show (0 : Int) ≤ 12 by omega) (by omega) (show 2 ≤ d + 5 by omega) k1
  have h2 : rep 12 (cX σ2 48) C := rep_X48 (fun b j _ _ => frX_trans f1 f2 b j (by omega)) h
  obtain ⟨σ3, e3, f3⟩ := x_sparL (Ln := Ln) (s := s) (p := p) (show N ≤ 100 by omega) (show 5 ≤ d + 6 by omega) (Int.toNat N) 0 σ2 _ h2 k2 (grid_nf _ _ _ (by omega)) (by omega) (by omega)
  rw [b_Seer_sparedByShut, e1, Option.bind_some]
  simp only [e2, Option.bind_some]
  exact ⟨σ3, e3, frX_trans f1 (frX_trans f2 f3)⟩
theorem x_shutL {Ln : Nat} {C : Cty} (w : WF 12 C) {p N : Int} {D : Nat} (hD : 7 ≤ D) (N0 : 0 ≤ N) (N1 : N ≤ 60) : ∀ (n : Nat) (s b f : Int) (σ : mmSt), rep 12 (cX σ 48) C → s + n = ((2 ^ Int.toNat (C 1 0) : Nat) : Int) → 0 ≤ s → ∃ σ', srun (lyT Ln) (D, 84, 6, [mR 47, mI p, mI N, mI b, mI f, mI s], [], σ) = some (σ', srchL (spB C p N) n s b f) ∧ frX 58 σ σ' := by
  obtain ⟨d, rfl⟩ := Nat.exists_eq_add_of_le' hD
  have wf := w.1
  have sh := shl_1 (show 0 ≤ C 1 0 by omega) (by omega)
  have p7 := pow_7 (show 0 ≤ C 1 0 by omega) (by omega)
  intro n
  induction n with
  | zero =>
    intro s b f σ h e s0
    rw [b_Seer_fewestShut_6, x1 h, sh, decide_eq_true (by omega)]
    exact ⟨σ, rfl, frX_rfl _ _⟩
  | succ n ih =>
    intro s b f σ h e s0
    obtain ⟨σ1, e1, f1⟩ := x_spar (Ln := Ln) (s := s) (p := p) h w (show 6 ≤ d + 6 by omega) N0 N1
    have h1 : rep 12 (cX σ1 48) C := rep_X48 (fun b j _ _ => f1 b j (by omega)) h
    rw [b_Seer_fewestShut_6, x1 h, sh, decide_eq_false (by omega), cond_false, x_bitc (by omega) s0 (by omega), Option.bind_some, mw (by omega) (by omega), srchL]
    simp only [e1, Option.bind_some, dec0, x_bitc (show 1 ≤ d + 6 by omega) s0 (show s < 128 by omega), dle]
    obtain ⟨σ2, e2, f2⟩ := ih (s + 1) b f σ h (by omega) (by omega)
    obtain ⟨σ3, e3, f3⟩ := ih (s + 1) b f σ1 h1 (by omega) (by omega)
    obtain ⟨σ4, e4, f4⟩ := ih (s + 1) s (pop s) σ1 h1 (by omega) (by omega)
    cases decide (pop s < f) <;> cases spB C p N s
    · exact ⟨σ2, e2, f2⟩
    · exact ⟨σ2, e2, f2⟩
    · exact ⟨σ3, e3, frX_trans f1 f3⟩
    · exact ⟨σ4, e4, frX_trans f1 f4⟩
theorem cup_same {C : Cty} {f : Nat} {i v : Int} (h : C f i = v) : cup C f i v = C := by
  funext g j
  rw [cup_ap]
  split
  · rename_i c; rw [c.1, c.2]; exact h.symm
  · rfl
theorem m_shut45 {Ln : Nat} {p N x b s : Int} {C : Cty} (w : WF 12 C) (v8 : mmV) : ∀ (n : Nat) (r : Int) (σ : mmSt) (E : Cty) (v7 : mmV), rep 12 (cM (σ 96)) C → KM σ 98 E → E 1 0 = C 1 0 → (∀ j, r ≤ j → E 7 j = C 7 j) → r + n = C 1 0 → 0 ≤ r → ∃ σ', srun (lyT Ln) (99, 213, 45, [mR 92, mI p, mI N, mI x, mI b, mI s, mI r, v7, v8], [], σ) = srun (lyT Ln) (99, 213, 78, [mR 92, mI p, mI N, mI x, mI b, mI s, mI 1, mI 0, v8], [], σ') ∧ KM σ' 98 (gridL s 12 n r E) ∧ frM 98 σ σ' := by
  have wf := w.1
  intro n
  induction n with
  | zero =>
    intro r σ E v7 h k e1 e7 e r0
    rw [b_M_shuts_45, m1 h, decide_eq_true (by omega), cond_true]
    exact ⟨σ, rfl, k, frM_rfl _ _⟩
  | succ n ih =>
    intro r σ E v7 h k e1 e7 e r0
    have w7 := w.2.2.1 r r0 (by omega)
    have wE := k.2.2.1
    have hb : E 1 0 ≤ 7 ∧ E 2 0 ≤ 5 := by omega
    rw [b_M_shuts_45, m1 h, decide_eq_false (by omega), cond_false, m_has (by omega), Option.bind_some, gridL]
    simp (discharger := omega) only [dec0, m_its2 ⟨.inl rfl, h, w⟩, Option.bind_some, mw, minb_t, cond_true]
    cases hasB s r
    · have k1 : KM (mup σ 98 (Int.toNat (11 + 3 * r + 2)) (C 7 r)) 98 E := by
        have := rep_upM (f := 7) (i := r) (v := C 7 r) hb (by omega) (by omega) r0 (show r < E 1 0 by omega) k.2.1
        rw [cup_same (e7 r (by omega))] at this
        exact ⟨k.1, this, k.2.2⟩
      obtain ⟨σ2, e2, k2, f2⟩ := ih (r + 1) _ E v7 (rep_M_of (fun j => mup_ne (by omega)) h) k1 e1 (fun j hj => e7 j (by omega)) (by omega) (by omega)
      exact ⟨σ2, e2, k2, frM_trans (frM_up (by omega)) f2⟩
    · have k1 : KM (mup σ 98 (Int.toNat (11 + 3 * r + 2)) 12) 98 (cup E 7 r 12) := ⟨k.1, rep_upM (f := 7) (i := r) (v := 12) hb (by omega) (by omega) r0 (show r < E 1 0 by omega) k.2.1, WF_upd k.2.2 (.inr (.inr (.inl ⟨rfl, by omega, by omega⟩)))⟩
      obtain ⟨σ2, e2, k2, f2⟩ := ih (r + 1) _ (cup E 7 r 12) v7 (rep_M_of (fun j => mup_ne (by omega)) h) k1 (by rw [cup_nf (by omega)]; exact e1) (fun j hj => by rw [cup_ni (by omega)]; exact e7 j (by omega)) (by omega) (by omega)
      exact ⟨σ2, e2, k2, frM_trans (frM_up (by omega)) f2⟩
theorem m_shut89 {Ln : Nat} {p N x b s z : Int} {C E : Cty} {σ : mmSt} (h : KM σ 96 C) (k : KM σ 98 E) (h2 : E 2 0 = C 2 0) (z0 : 0 ≤ z) (z1 : z < 100) : ∀ (n : Nat) (q : Int) (fl : Bool), q + n = C 2 0 → 0 ≤ q → srun (lyT Ln) (99, 213, 89, [mR 92, mI p, mI N, mI x, mI b, mI s, mI (b2i fl), mI z, mI q], [], σ) = srun (lyT Ln) (99, 213, 78, [mR 92, mI p, mI N, mI x, mI b, mI s, mI (b2i (fl && !entM C E p n q)), mI (z + 1), mI (C 2 0)], [], σ) := by
  have w := h.2.2.1
  intro n
  induction n with
  | zero =>
    intro q fl e q0
    rw [b_M_shuts_89, m2 h.2.1, decide_eq_true (by omega), cond_true, mw (by omega) (by omega), show q = C 2 0 by omega]
    cases fl <;> rfl
  | succ n ih =>
    intro q fl e q0
    have i0 := ih (q + 1) false (by omega) (by omega)
    have i1 := ih (q + 1) true (by omega) (by omega)
    rw [b_M_shuts_89, m2 h.2.1, decide_eq_false (by omega), cond_false, mw (by omega) (by omega), entM]
    simp only [dec0, dec1, m_isIn h (show 3 ≤ 98 by omega) q0 (show q < C 2 0 by omega), m_isIn k (show 3 ≤ 98 by omega) q0 (show q < E 2 0 by omega), Option.bind_some]
    cases fl
    · exact i0
    · cases livesB C q p
      · cases livesB E q p
        · exact i1
        · exact i0
      · exact i1
theorem m_shut78 {Ln : Nat} {p N x b s : Int} {C : Cty} (w : WF 12 C) (N1 : N ≤ 60) (s0 : 0 ≤ s) (s1 : s < 200) : ∀ (n : Nat) (z : Int) (σ : mmSt) (E : Cty) (v8 : mmV), rep 12 (cM (σ 96)) C → KM σ 98 E → E 2 0 = C 2 0 → eInv C E p → z + n = N → 0 ≤ z → ∃ σ' u v y, srun (lyT Ln) (99, 213, 78, [mR 92, mI p, mI N, mI x, mI b, mI s, mI 1, mI z, v8], [], σ) = srun (lyT Ln) (99, 213, 25, [mR 92, mI p, mI N, mI x, mI (bif spL C p n E then s else b), mI (s + 1), u, v, y], [], σ') ∧ frM 98 σ σ' := by
  have wf := w.1
  intro n
  induction n with
  | zero =>
    intro z σ E v8 h k h2 v e z0
    rw [b_M_shuts_78, decide_eq_true (by omega), cond_true, decide_eq_false (show ¬ (1 : Int) = 0 by omega), cond_false, mw (by omega) (by omega)]
    exact ⟨σ, mI 1, mI z, v8, rfl, frM_rfl _ _⟩
  | succ n ih =>
    intro z σ E v8 h k h2 v e z0
    obtain ⟨σ1, e1, k1, f1, _⟩ := m_year (Ln := Ln) k (show 5 ≤ 98 by omega)
    have h1 : rep 12 (cM (σ1 96)) C := rep_M_of (fun j => f1 96 j (by omega)) h
    have y2 : yearC E 2 0 = C 2 0 := by rw [year_2]; exact h2
    have e2 := m_shut89 (Ln := Ln) (p := p) (N := N) (x := x) (b := b) (s := s) ⟨.inl rfl, h1, w⟩ k1 y2 z0 (by omega) (Int.toNat (C 2 0)) 0 true (by omega) (by omega)
    rw [b_M_shuts_78, decide_eq_false (by omega), cond_false, decide_eq_false (show ¬ (1 : Int) = 0 by omega), cond_false, e1, Option.bind_some, show (1 : Int) = b2i true from rfl, e2, ← ent_eq k.2.2 h2 v (Int.toNat (C 2 0)) 0 (by omega) (by omega), spL]
    cases he : entL C (yearC E) p (Int.toNat (C 2 0)) 0
    · obtain ⟨σ2, u, v', y, e3, f3⟩ := ih (z + 1) σ1 (yearC E) (mI (C 2 0)) h1 k1 y2 (eInv_year v (by omega) he) (by omega) (by omega)
      exact ⟨σ2, u, v', y, e3, frM_trans f1 f3⟩
    · refine ⟨σ1, mI 0, mI (z + 1), mI (C 2 0), ?_, f1⟩
      show srun (lyT Ln) (99, 213, 78, [mR 92, mI p, mI N, mI x, mI b, mI s, mI 0, mI (z + 1), mI (C 2 0)], [], σ1) = _
      rw [b_M_shuts_78, mw (by omega) (by omega), decide_eq_true (show (0 : Int) = 0 from rfl)]
      cases decide (N ≤ z + 1) <;> rfl
theorem eInv_0 {C : Cty} {p : Int} (s : Int) (n : Nat) : eInv C (gridL s 12 n 0 (zt C)) p := fun q q0 q1 => by
  have e9 : gridL s 12 n 0 (zt C) 9 q = C 9 q := grid_nf _ _ _ (by omega)
  have e10 : gridL s 12 n 0 (zt C) 10 q = C 10 q := grid_nf _ _ _ (by omega)
  rw [e9, dead_10 e10]
  exact ⟨fun h => h, fun h => h⟩
theorem m_shutL {Ln : Nat} {C : Cty} (w : WF 12 C) {p N x : Int} (N0 : 0 ≤ N) (N1 : N ≤ 60) (x0 : 0 ≤ x) (x1 : x ≤ 1) : ∀ (n : Nat) (s b f : Int) (σ : mmSt) (u v y : mmV), rep 12 (cM (σ 96)) C → s + n = ((2 ^ Int.toNat (C 1 0) : Nat) : Int) → 0 ≤ s → (b = -1000000 ∨ (0 ≤ b ∧ b < 128)) → f = (if b = -1000000 then 8 else pop b) → ∃ σ', srun (lyT Ln) (99, 213, 25, [mR 92, mI p, mI N, mI x, mI b, mI s, u, v, y], [], σ) = some (σ', cobC (srchL (spB C p N) n s b f) x) ∧ frM 98 σ σ' := by
  have wf := w.1
  have sh := shl_1 (show 0 ≤ C 1 0 by omega) (by omega)
  have p7 := pow_7 (show 0 ≤ C 1 0 by omega) (by omega)
  intro n
  induction n with
  | zero =>
    intro s b f σ u v y h e s0 hb hf
    rw [b_M_shuts_25, m1 h, sh, decide_eq_true (by omega), cond_true, m_bits (by omega), Option.bind_some]
    refine ⟨σ, ?_, frM_rfl _ _⟩
    rw [srchL]
    unfold cobC
    by_cases c : b = -1000000
    · rw [decide_eq_true c, if_pos c]
      by_cases cx : x = 0
      · rw [if_pos cx]; rfl
      · rw [if_neg cx]; rfl
    · rw [decide_eq_false c, if_neg c]
      by_cases cx : x = 0
      · rw [if_pos cx, decide_eq_true (show ¬ x = 1 by omega)]; rfl
      · rw [if_neg cx, decide_eq_false (show ¬ ¬ x = 1 by omega)]; rfl
  | succ n ih =>
    intro s b f σ u v y h e s0 hb hf
    have sp := pop_in s0 (show s < 128 by omega)
    have main : ∃ σ', Option.bind (srun (lyT Ln) (98, 193, 0, [mR 92, mJ], [], σ)) (fun y2 => srun (lyT Ln) (99, 213, 45, [mR 92, mI p, mI N, mI x, mI b, mI s, mI 0, v, y], [], y2.1)) = some (σ', cobC (bif spB C p N s then srchL (spB C p N) n (s + 1) s (pop s) else srchL (spB C p N) n (s + 1) b f) x) ∧ frM 98 σ σ' := by
      obtain ⟨σ1, e1, k1, f1⟩ := m_lay (Ln := Ln) h w (show 1 ≤ 98 by omega)
      have h1 : rep 12 (cM (σ1 96)) C := rep_M_of (fun j => f1 96 j (by omega)) h
      obtain ⟨σ2, e2, k2, f2⟩ := m_shut45 (Ln := Ln) (p := p) (N := N) (x := x) (b := b) (s := s) w y (Int.toNat (C 1 0)) 0 σ1 (zt C) v h1 k1 rfl (fun _ _ => rfl) (by omega) (by omega)
      have h2 : rep 12 (cM (σ2 96)) C := rep_M_of (fun j => f2 96 j (by omega)) h1
      obtain ⟨σ3, u3, v3, y3, e3, f3⟩ := m_shut78 (Ln := Ln) (p := p) (x := x) (b := b) w N1 s0 (show s < 200 by omega) (Int.toNat N) 0 σ2 _ y h2 k2 (grid_nf _ _ _ (by omega)) (eInv_0 s _) (by omega) (by omega)
      have h3 : rep 12 (cM (σ3 96)) C := rep_M_of (fun j => f3 96 j (by omega)) h2
      rw [e1, Option.bind_some, e2, e3]
      show ∃ σ', srun (lyT Ln) (99, 213, 25, [mR 92, mI p, mI N, mI x, mI (bif spB C p N s then s else b), mI (s + 1), u3, v3, y3], [], σ3) = _ ∧ _
      cases spB C p N s
      · obtain ⟨σ4, e4, f4⟩ := ih (s + 1) b f σ3 u3 v3 y3 h3 (by omega) (by omega) hb hf
        exact ⟨σ4, e4, frM_trans f1 (frM_trans f2 (frM_trans f3 f4))⟩
      · obtain ⟨σ4, e4, f4⟩ := ih (s + 1) s (pop s) σ3 u3 v3 y3 h3 (by omega) (by omega) (.inr ⟨s0, by omega⟩) (by rw [if_neg (by omega)])
        exact ⟨σ4, e4, frM_trans f1 (frM_trans f2 (frM_trans f3 f4))⟩
    rw [b_M_shuts_25, m1 h, sh, decide_eq_false (by omega), cond_false, srchL]
    by_cases c : b = -1000000
    · rw [if_pos c] at hf
      rw [decide_eq_true c, cond_true, decide_eq_true (show pop s < f by omega), Bool.true_and]
      obtain ⟨σ', e', f'⟩ := main
      refine ⟨σ', e'.trans ?_, f'⟩
      cases spB C p N s <;> rfl
    · rw [if_neg c] at hf
      rw [decide_eq_false c, cond_false, m_bits (by omega), Option.bind_some]
      simp only [m_bits (show 1 ≤ 98 by omega), Option.bind_some, dle, mw (show -2147483648 ≤ s + 1 by omega) (show s + 1 < 2147483648 by omega)]
      rw [hf]
      by_cases cp : pop s < pop b
      · rw [decide_eq_true cp, Bool.true_and]
        obtain ⟨σ', e', f'⟩ := main
        rw [hf] at e'
        refine ⟨σ', e'.trans ?_, f'⟩
        cases spB C p N s <;> rfl
      · rw [decide_eq_false cp, Bool.false_and]
        obtain ⟨σ3, e3, f3⟩ := ih (s + 1) b f σ u v y h (by omega) (by omega) hb (by rw [if_neg c]; exact hf)
        rw [hf] at e3
        exact ⟨σ3, e3, f3⟩
theorem k_128 (Ln : Nat) : ck_128 Rel Ln := fun p n x _ _ _ => cok_v (fun C => bif inB p (C 0 0) && (btB 1 n 30 && btB 0 x 1) then cobC (srchL (spB C p n) (2 ^ Int.toNat (C 1 0)) 0 (-1000000) 8) x else -1000001)
  (fun σ C ⟨h, _, hc⟩ => by
    have b := now_b hc
    rw [b_X_shuts, x_isParish c48 h (by omega) (by omega) (by omega)]
    simp only [Option.bind_some, dec0, dec1, x_within (show 1 ≤ 98 by omega)]
    cases hp : inB p (C 0 0)
    · exact ⟨σ, rfl, quiet_rfl _⟩
    cases hn : btB 1 n 30
    · exact ⟨σ, rfl, quiet_rfl _⟩
    cases hx : btB 0 x 1
    · exact ⟨σ, rfl, quiet_rfl _⟩
    have n1 := btB_t hn
    have w := good_W (now_p hc hp)
    have p7 := pow_7 b.2.2.1 b.2.2.2.1
    obtain ⟨σ1, e1, f1⟩ := x_shutL (Ln := Ln) (p := p) w (show 7 ≤ 98 by omega) (show 0 ≤ n by omega) (by omega) (2 ^ Int.toNat (C 1 0)) 0 (-1000000) 8 σ h (by omega) (by omega)
    have si := srch_in (P := spB C p n) (2 ^ Int.toNat (C 1 0)) 0 (-1000000) 8 (by omega) (by omega) (.inl rfl)
    simp only [Bool.not_true, cond_false, cond_true]
    rw [b_Seer_fewestShut, e1, Option.bind_some]
    simp only [x_cob (show 2 ≤ 98 by omega) si, Option.bind_some]
    exact ⟨σ1, rfl, fr_quiet f1⟩)
  (fun σ C ⟨_, h, hc⟩ => by
    have b := now_b hc
    have h := thr h
    rw [b_M_shuts, m_isParish h (by omega) (by omega) (by omega)]
    simp only [Option.bind_some, dec0, dec1, m_in (show 1 ≤ 98 by omega)]
    cases hp : inB p (C 0 0)
    · exact ⟨_, rfl, q0⟩
    cases hn : btB 1 n 30
    · exact ⟨_, rfl, q0⟩
    cases hx : btB 0 x 1
    · exact ⟨_, rfl, q0⟩
    have n1 := btB_t hn
    have x1 := btB_t hx
    have w := good_W (now_p hc hp)
    obtain ⟨σ1, e1, f1⟩ := m_shutL (Ln := Ln) (p := p) w (show 0 ≤ n by omega) (by omega) x1.1 x1.2 (2 ^ Int.toNat (C 1 0)) 0 (-1000000) 8 _ mJ mJ mJ h (by omega) (by omega) (.inl rfl) (by rw [if_pos rfl])
    simp only [Bool.not_true, cond_false, cond_true]
    exact ⟨σ1, e1, quiet_trans q0 (frM_quiet f1)⟩)
