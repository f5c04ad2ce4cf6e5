/-! a year -/
def frX (a : Nat) (σ σ' : mmSt) : Prop := ∀ b j, (b < a ∨ a + 9 < b) → σ' b j = σ b j
def KY (n : Nat) (σ : mmSt) (a : Nat) (C : Cty) : Prop := cnty a ∧ rep n (cX σ a) C ∧ WF 12 C ∧ 12 ≤ n
theorem KY_X {n : Nat} {σ : mmSt} {a : Nat} {C : Cty} (k : KY n σ a C) : KX σ a C := ⟨k.1, rep_le k.2.1 k.2.2.2, k.2.2.1⟩
theorem frX_rfl (a : Nat) (σ : mmSt) : frX a σ σ := fun _ _ _ => rfl
theorem frX_trans {a : Nat} {s t u : mmSt} (h : frX a s t) (k : frX a t u) : frX a s u := fun b j q => (k b j q).trans (h b j q)
theorem frX_up {a b i : Nat} {σ : mmSt} {v : Int} (h : a ≤ b ∧ b ≤ a + 9) : frX a σ (mup σ b i v) := fun c j q => mup_ne (by omega)
def walkC (C : Cty) (q t : Int) : Cty := if t = C 9 q then C else cup (cup C 14 0 (mwrap (C 14 0 + 1))) 9 q t
def eatC (C : Cty) (q : Int) : Cty := if C 4 (C 9 q) ≤ 0 then cup C 10 q (mmaxi (if C 8 q = 5 then 1 else 0) (C 10 q - 1)) else cup (cup (cup (cup C 4 (C 9 q) (C 4 (C 9 q) - 1)) 10 q (mmini 9 (C 10 q + if C 8 q = 3 then 2 else 1))) 12 q (mwrap (C 12 q + 1))) 13 0 (mor (C 13 0) (mshl 1 (C 9 q)))
def stepC (C : Cty) (q : Int) : Cty := bif deadB C q then C else eatC (walkC C q (goesC C q)) q
def yearL : Nat → Int → Cty → Cty
  | 0, _, C => C
  | n + 1, q, C => yearL n (q + 1) (stepC C q)
def yearC (C : Cty) : Cty := cup (yearL (Int.toNat (C 2 0)) 0 C) 3 0 (mwrap ((yearL (Int.toNat (C 2 0)) 0 C) 3 0 + 1))
theorem goL_in {g : Int} {C : Cty} (w : WF g C) {q h : Int} : ∀ (n : Nat) (r b : Int), r + n = C 1 0 → 0 ≤ r → 0 ≤ b → b < C 0 0 → 0 ≤ goesL C q h n r b ∧ goesL C q h n r b < C 0 0 := by
  intro n
  induction n with
  | zero => intro r b e r0 b0 b1; exact ⟨b0, b1⟩
  | succ n ih =>
    intro r b e r0 b0 b1
    have f := far_in w r0 (show r < C 1 0 by omega) h
    rw [goesL]
    cases (touchB C r h && crossB C q r && decide (C 4 b < C 4 (farC C r h)))
    · exact ih (r + 1) b (by omega) (by omega) b0 b1
    · exact ih (r + 1) _ (by omega) (by omega) f.1 f.2
theorem goes_in {g : Int} {C : Cty} (w : WF g C) {q : Int} (h0 : 0 ≤ q) (h1 : q < C 2 0) : 0 ≤ goesC C q ∧ goesC C q < C 0 0 := by
  have w0 := w.1
  have w2 := w.2.2.2 q h0 h1
  unfold goesC
  cases (deadB C q || stayB C q)
  · exact goL_in w (Int.toNat (C 1 0)) 0 (C 9 q) (by omega) (by omega) (by omega) (by omega)
  · exact ⟨w2.2.2.1, w2.2.2.2.1⟩
theorem WF_walk {g : Int} {C : Cty} (w : WF g C) {q t : Int} (t0 : 0 ≤ t) (t1 : t < C 0 0) : WF g (walkC C q t) := by
  unfold walkC
  split
  · exact w
  · exact WF_upd (WF_upd w (by omega)) (.inr (.inr (.inr (.inr (.inl ⟨rfl, t0, by rw [cup_nf (by omega)]; exact t1⟩)))))
theorem WF_eat {g : Int} {C : Cty} (w : WF g C) {q : Int} (h0 : 0 ≤ q) (h1 : q < C 2 0) : WF g (eatC C q) := by
  have w0 := w.1
  have w3 := w.2.2.2 q h0 h1
  have w4 := w.2.1 (C 9 q) (by omega) (by omega)
  unfold eatC
  split
  · refine WF_upd w (.inr (.inr (.inr (.inr (.inr (.inl ⟨rfl, ?_, ?_⟩)))))) <;> unfold mmaxi <;> split <;> split <;> omega
  · refine WF_upd (WF_upd (WF_upd (WF_upd w (.inr (.inl ⟨rfl, by omega, by omega⟩))) (.inr (.inr (.inr (.inr (.inr (.inl ⟨rfl, ?_, ?_⟩))))))) (by omega)) (by omega) <;> unfold mmini <;> split <;> split <;> omega
theorem walk_at (C : Cty) (q t : Int) : walkC C q t 9 q = t := by
  unfold walkC
  split
  · rename_i h; exact h.symm
  · exact cup_eq _ _ _ _
theorem walk_nf (C : Cty) (q t : Int) {f : Nat} {i : Int} (h : f ≠ 9) (h2 : f ≠ 14) : walkC C q t f i = C f i := by
  unfold walkC
  split
  · rfl
  · rw [cup_nf h, cup_nf h2]
theorem WF_step {g : Int} {C : Cty} (w : WF g C) {q : Int} (h0 : 0 ≤ q) (h1 : q < C 2 0) : WF g (stepC C q) := by
  have i := goes_in w h0 h1
  unfold stepC
  cases deadB C q
  · exact WF_eat (WF_walk w i.1 i.2) h0 (by rw [walk_nf _ _ _ (by omega) (by omega)]; exact h1)
  · exact w
theorem eat_nf (C : Cty) (q : Int) {f : Nat} {i : Int} (h : f ≠ 4) (h1 : f ≠ 10) (h2 : f ≠ 12) (h3 : f ≠ 13) : eatC C q f i = C f i := by
  unfold eatC
  split
  · exact cup_nf h1
  · rw [cup_nf h3, cup_nf h2, cup_nf h1, cup_nf h]
theorem step_nf (C : Cty) (q : Int) {f : Nat} {i : Int} (h : f < 9 ∨ f = 11) (h4 : f ≠ 4) : stepC C q f i = C f i := by
  unfold stepC
  cases deadB C q
  · exact (eat_nf _ _ (by omega) (by omega) (by omega) (by omega)).trans (walk_nf _ _ _ (by omega) (by omega))
  · rfl
theorem yearL_nf : ∀ (n : Nat) (q : Int) (C : Cty) {f : Nat} {i : Int}, (f < 9 ∨ f = 11) → f ≠ 4 → yearL n q C f i = C f i := by
  intro n
  induction n with
  | zero => intro q C f i _ _; rfl
  | succ n ih => intro q C f i h h4; exact (ih (q + 1) (stepC C q) h h4).trans (step_nf C q h h4)
theorem step_hay {g : Int} {C : Cty} (w : WF g C) {q : Int} (h0 : 0 ≤ q) (h1 : q < C 2 0) {p : Int} (hp : C 0 0 ≤ p) : stepC C q 4 p = C 4 p := by
  have i := goes_in w h0 h1
  unfold stepC
  cases deadB C q
  · show eatC (walkC C q (goesC C q)) q 4 p = C 4 p
    unfold eatC
    rw [walk_at]
    split
    · rw [cup_nf (by omega), walk_nf _ _ _ (by omega) (by omega)]
    · rw [cup_nf (by omega), cup_nf (by omega), cup_nf (by omega), cup_ni (by omega), walk_nf _ _ _ (by omega) (by omega)]
  · rfl
theorem yearL_ok {g : Int} : ∀ (n : Nat) (q : Int) (C : Cty), WF g C → q + n = C 2 0 → 0 ≤ q → WF g (yearL n q C) ∧ ∀ p, C 0 0 ≤ p → yearL n q C 4 p = C 4 p := by
  intro n
  induction n with
  | zero => intro q C w _ _; exact ⟨w, fun _ _ => rfl⟩
  | succ n ih =>
    intro q C w e h0
    have s2 : stepC C q 2 0 = C 2 0 := step_nf C q (by omega) (by omega)
    have s0 : stepC C q 0 0 = C 0 0 := step_nf C q (by omega) (by omega)
    obtain ⟨a, b⟩ := ih (q + 1) (stepC C q) (WF_step w h0 (by omega)) (by omega) (by omega)
    exact ⟨a, fun p hp => (b p (by omega)).trans (step_hay w h0 (by omega) hp)⟩
theorem WF_year {g : Int} {C : Cty} (w : WF g C) : WF g (yearC C) := by
  have := w.1
  exact WF_upd (yearL_ok (Int.toNat (C 2 0)) 0 C w (by omega) (by omega)).1 (by omega)
theorem year_nf (C : Cty) {f : Nat} {i : Int} (h : f < 9 ∨ f = 11) (h4 : f ≠ 4) (h3 : f ≠ 3) : yearC C f i = C f i :=
  (cup_nf h3).trans (yearL_nf _ _ _ h h4)
theorem year_3 (C : Cty) : yearC C 3 0 = mwrap (C 3 0 + 1) := by
  unfold yearC
  rw [cup_eq, yearL_nf _ _ _ (by omega) (by omega)]
theorem year_hay {g : Int} {C : Cty} (w : WF g C) {p : Int} (hp : C 0 0 ≤ p) : yearC C 4 p = C 4 p := by
  have := w.1
  exact (cup_nf (by omega)).trans ((yearL_ok (Int.toNat (C 2 0)) 0 C w (by omega) (by omega)).2 p hp)
theorem x_walk {Ln n : Nat} {σ : mmSt} {a : Nat} {C : Cty} (k : KY n σ a C) {D : Nat} (hD : 1 ≤ D) {q : Int} (h0 : 0 ≤ q) (h1 : q < C 2 0) (t : Int) : ∃ σ', srun (lyT Ln) (D, 33, 0, [mR a, mI q, mI t], [], σ) = some (σ', 0) ∧ rep n (cX σ' a) (walkC C q t) ∧ frX a σ σ' := by
  obtain ⟨d, rfl⟩ := Nat.exists_eq_add_of_le' hD
  have w := k.2.2.1.1
  have kx := KY_X k
  rw [b_County_walk _ _ _ _ _ _ k.1, minb_t h0 (by omega), x9 kx.2.1 q h0 h1]
  unfold walkC
  by_cases c : t = C 9 q
  · rw [decide_eq_true c, if_pos c]; exact ⟨σ, rfl, k.2.1, frX_rfl _ _⟩
  · rw [decide_eq_false c, if_neg c]
    exact ⟨_, rfl, rep_upX (f := 9) (by omega) (by omega) h0 (fun _ => rfl) (rep_upXt (f := 14) (by omega) (fun hn => by rw [show σ a 13 = C 14 0 from k.2.1 14 0 hn (by omega) (by show (0 : Int) < 1; omega)]) k.2.1), frX_trans (frX_up (by omega)) (frX_up (by omega))⟩
theorem x_eat {Ln n : Nat} {σ : mmSt} {a : Nat} {C : Cty} (k : KY n σ a C) {D : Nat} (hD : 1 ≤ D) {q : Int} (h0 : 0 ≤ q) (h1 : q < C 2 0) : ∃ σ', srun (lyT Ln) (D, 34, 0, [mR a, mI q, mJ], [], σ) = some (σ', 0) ∧ rep n (cX σ' a) (eatC C q) ∧ frX a σ σ' := by
  obtain ⟨d, rfl⟩ := Nat.exists_eq_add_of_le' hD
  have w := k.2.2.1.1
  have w3 := k.2.2.1.2.2.2 q h0 h1
  have w4 := k.2.2.1.2.1 (C 9 q) (by omega) (by omega)
  have kx := KY_X k
  rw [b_County_eatOrStarve _ _ _ _ _ k.1]
  simp (discharger := omega) only [minb_t h0 (show q < ((5 : Nat) : Int) by omega), cond_true, x9 kx.2.1 q h0 h1, minb_t (show 0 ≤ C 9 q by omega) (show C 9 q < ((7 : Nat) : Int) by omega), mup_ne, x4 kx.2.1, x8 kx.2.1, x10 kx.2.1, mw]
  unfold eatC
  by_cases c : C 4 (C 9 q) ≤ 0
  · rw [decide_eq_true c, if_pos c]
    by_cases c5 : C 8 q = 5
    · rw [if_pos c5, decide_eq_false (by omega)]
      exact ⟨_, rfl, rep_upX (f := 10) (by omega) (by omega) h0 (fun _ => rfl) k.2.1, frX_up (by omega)⟩
    · rw [if_neg c5, decide_eq_true c5]
      exact ⟨_, rfl, rep_upX (f := 10) (by omega) (by omega) h0 (fun _ => rfl) k.2.1, frX_up (by omega)⟩
  · rw [decide_eq_false c, if_neg c, cond_false]
    by_cases c3 : C 8 q = 3
    · rw [if_pos c3, decide_eq_false (by omega)]
      exact ⟨_, rfl, rep_upXt (f := 13) (by omega) (fun hn => by rw [show σ a 12 = C 13 0 from k.2.1 13 0 hn (by omega) (by show (0 : Int) < 1; omega)]) (rep_upX (f := 12) (by omega) (by omega) h0 (fun hn => by rw [show σ (a + 9) (Int.toNat q) = C 12 q from k.2.1 12 q hn h0 h1]) (rep_upX (f := 10) (by omega) (by omega) h0 (fun _ => rfl) (rep_upX (f := 4) (by omega) (by omega) (by omega) (fun _ => rfl) k.2.1))), frX_trans (frX_up (by omega)) (frX_trans (frX_up (by omega)) (frX_trans (frX_up (by omega)) (frX_up (by omega))))⟩
    · rw [if_neg c3, decide_eq_true c3]
      exact ⟨_, rfl, rep_upXt (f := 13) (by omega) (fun hn => by rw [show σ a 12 = C 13 0 from k.2.1 13 0 hn (by omega) (by show (0 : Int) < 1; omega)]) (rep_upX (f := 12) (by omega) (by omega) h0 (fun hn => by rw [show σ (a + 9) (Int.toNat q) = C 12 q from k.2.1 12 q hn h0 h1]) (rep_upX (f := 10) (by omega) (by omega) h0 (fun _ => rfl) (rep_upX (f := 4) (by omega) (by omega) (by omega) (fun _ => rfl) k.2.1))), frX_trans (frX_up (by omega)) (frX_trans (frX_up (by omega)) (frX_trans (frX_up (by omega)) (frX_up (by omega))))⟩
theorem x_yearL {Ln m : Nat} {a : Nat} {D : Nat} (hD : 4 ≤ D) : ∀ (n : Nat) (q : Int) (σ : mmSt) (C : Cty), KY m σ a C → q + n = C 2 0 → 0 ≤ q → ∃ σ', srun (lyT Ln) (D, 32, 2, [mR a, mI q], [], σ) = some (σ', 0) ∧ rep m (cX σ' a) (cup (yearL n q C) 3 0 (mwrap (yearL n q C 3 0 + 1))) ∧ frX a σ σ' := by
  obtain ⟨d, rfl⟩ := Nat.exists_eq_add_of_le' hD
  intro n
  induction n with
  | zero =>
    intro q σ C k e h0
    have kx := KY_X k
    rw [b_County_passYear_2 _ _ _ _ _ k.1, x2 kx.2.1, decide_eq_true (by omega), x3 kx.2.1]
    exact ⟨_, rfl, rep_upX3 k.2.1, frX_up (by omega)⟩
  | succ n ih =>
    intro q σ C k e h0
    have kx := KY_X k
    have w := k.2.2.1.1
    have gi := goes_in k.2.2.1 h0 (show q < C 2 0 by omega)
    have s2 : stepC C q 2 0 = C 2 0 := step_nf C q (by omega) (by omega)
    rw [b_County_passYear_2 _ _ _ _ _ k.1, x2 kx.2.1, decide_eq_false (by omega), cond_false, x_dead kx (by omega) h0 (by omega), Option.bind_some, mw (z := q + 1) (by omega) (by omega)]
    simp only [dec1]
    have st : WF 12 (stepC C q) := WF_step k.2.2.1 h0 (by omega)
    cases hd : deadB C q
    · rw [cond_false, x_goes kx (by omega) h0 (by omega), Option.bind_some]
      obtain ⟨σ1, e1, r1, f1⟩ := x_walk (Ln := Ln) k (show 1 ≤ d + 3 by omega) h0 (show q < C 2 0 by omega) (goesC C q)
      simp only [e1, Option.bind_some]
      obtain ⟨σ2, e2, r2, f2⟩ := x_eat (Ln := Ln) (show KY m σ1 a (walkC C q (goesC C q)) from ⟨k.1, r1, WF_walk k.2.2.1 gi.1 gi.2, k.2.2.2⟩) (show 1 ≤ d + 3 by omega) h0 (by rw [walk_nf _ _ _ (by omega) (by omega)]; omega)
      simp only [e2, Option.bind_some]
      have sc : stepC C q = eatC (walkC C q (goesC C q)) q := by unfold stepC; rw [hd]; rfl
      obtain ⟨σ3, e3, r3, f3⟩ := ih (q + 1) σ2 (stepC C q) ⟨k.1, by rw [sc]; exact r2, st, k.2.2.2⟩ (by omega) (by omega)
      exact ⟨σ3, e3, r3, frX_trans f1 (frX_trans f2 f3)⟩
    · have sc : stepC C q = C := by unfold stepC; rw [hd]; rfl
      obtain ⟨σ3, e3, r3, f3⟩ := ih (q + 1) σ (stepC C q) ⟨k.1, by rw [sc]; exact k.2.1, st, k.2.2.2⟩ (by omega) (by omega)
      exact ⟨σ3, e3, r3, f3⟩
theorem x_year {Ln m : Nat} {σ : mmSt} {a : Nat} {C : Cty} (k : KY m σ a C) {D : Nat} (hD : 4 ≤ D) : ∃ σ', srun (lyT Ln) (D, 32, 0, [mR a, mJ], [], σ) = some (σ', 0) ∧ KY m σ' a (yearC C) ∧ frX a σ σ' := by
  have w := k.2.2.1.1
  obtain ⟨d, rfl⟩ := Nat.exists_eq_add_of_le' hD
  obtain ⟨σ', e, r, f⟩ := x_yearL (Ln := Ln) (show 4 ≤ d + 4 by omega) (Int.toNat (C 2 0)) 0 σ C k (by omega) (by omega)
  exact ⟨σ', (b_County_passYear _ _ _ _ k.1).trans e, ⟨k.1, r, WF_year k.2.2.1, k.2.2.2⟩, f⟩
