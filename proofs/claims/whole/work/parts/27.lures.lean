/-! bits, searches: lures -/
def hasB (s k : Int) : Bool := decide (mand (mshr s k) 1 = 1)
theorem x_has {Ln : Nat} {σ : mmSt} {D : Nat} (hD : 1 ≤ D) (s k : Int) : srun (lyT Ln) (D, 151, 0, [mI s, mI k], [], σ) = some (σ, b2i (hasB s k)) := by
  obtain ⟨d, rfl⟩ := Nat.exists_eq_add_of_le' hD
  rw [b_X_has, dne]
  unfold hasB
  cases decide (mand (mshr s k) 1 = 1) <;> rfl
theorem m_has {Ln : Nat} {σ : mmSt} {D : Nat} (hD : 1 ≤ D) (s k : Int) : srun (lyT Ln) (D, 183, 0, [mI s, mI k], [], σ) = some (σ, b2i (hasB s k)) := by
  obtain ⟨d, rfl⟩ := Nat.exists_eq_add_of_le' hD
  rw [b_M_has, dne]
  unfold hasB
  cases decide (mand (mshr s k) 1 = 1) <;> rfl
def popL (v : Int) : Nat → Int → Int → Int
  | 0, _, s => s
  | n + 1, k, s => popL v n (k + 1) (mwrap (s + mand (mshr v k) 1))
def pop (v : Int) : Int := popL v 7 0 0
theorem m_bits {Ln : Nat} {σ : mmSt} {D : Nat} (hD : 1 ≤ D) (v : Int) : srun (lyT Ln) (D, 182, 0, [mI v, mJ, mJ], [], σ) = some (σ, pop v) := by
  obtain ⟨d, rfl⟩ := Nat.exists_eq_add_of_le' hD
  rw [b_M_bits]
  have : ∀ (n : Nat) (k s : Int), k + n = 7 → 0 ≤ k → srun (lyT Ln) (d + 1, 182, 4, [mI v, mI s, mI k], [], σ) = some (σ, popL v n k s) := by
    intro n
    induction n with
    | zero => intro k s e _; rw [b_M_bits_4, decide_eq_true (show 7 ≤ k by omega)]; rfl
    | succ n ih =>
      intro k s e k0
      rw [b_M_bits_4, decide_eq_false (show ¬ 7 ≤ k by omega), cond_false, mw (z := k + 1) (by omega) (by omega), popL]
      exact ih _ _ (by omega) (by omega)
  exact this 7 0 0 (by omega) (by omega)
theorem pop_F : ∀ v : Fin 128, (mand (mwrap ((mwrap ((mand (mwrap ((mwrap ((mand (mwrap ((v.val : Int) - (mand (mushr (v.val : Int) 1) 1431655765))) 858993459) + (mand (mushr (mwrap ((v.val : Int) - (mand (mushr (v.val : Int) 1) 1431655765))) 2) 858993459))) + (mushr (mwrap ((mand (mwrap ((v.val : Int) - (mand (mushr (v.val : Int) 1) 1431655765))) 858993459) + (mand (mushr (mwrap ((v.val : Int) - (mand (mushr (v.val : Int) 1) 1431655765))) 2) 858993459))) 4))) 252645135) + (mushr (mand (mwrap ((mwrap ((mand (mwrap ((v.val : Int) - (mand (mushr (v.val : Int) 1) 1431655765))) 858993459) + (mand (mushr (mwrap ((v.val : Int) - (mand (mushr (v.val : Int) 1) 1431655765))) 2) 858993459))) + (mushr (mwrap ((mand (mwrap ((v.val : Int) - (mand (mushr (v.val : Int) 1) 1431655765))) 858993459) + (mand (mushr (mwrap ((v.val : Int) - (mand (mushr (v.val : Int) 1) 1431655765))) 2) 858993459))) 4))) 252645135) 8))) + (mushr (mwrap ((mand (mwrap ((mwrap ((mand (mwrap ((v.val : Int) - (mand (mushr (v.val : Int) 1) 1431655765))) 858993459) + (mand (mushr (mwrap ((v.val : Int) - (mand (mushr (v.val : Int) 1) 1431655765))) 2) 858993459))) + (mushr (mwrap ((mand (mwrap ((v.val : Int) - (mand (mushr (v.val : Int) 1) 1431655765))) 858993459) + (mand (mushr (mwrap ((v.val : Int) - (mand (mushr (v.val : Int) 1) 1431655765))) 2) 858993459))) 4))) 252645135) + (mushr (mand (mwrap ((mwrap ((mand (mwrap ((v.val : Int) - (mand (mushr (v.val : Int) 1) 1431655765))) 858993459) + (mand (mushr (mwrap ((v.val : Int) - (mand (mushr (v.val : Int) 1) 1431655765))) 2) 858993459))) + (mushr (mwrap ((mand (mwrap ((v.val : Int) - (mand (mushr (v.val : Int) 1) 1431655765))) 858993459) + (mand (mushr (mwrap ((v.val : Int) - (mand (mushr (v.val : Int) 1) 1431655765))) 2) 858993459))) 4))) 252645135) 8))) 16))) 63) = pop (v.val : Int) := by decide +kernel
theorem pop_7 : ∀ v : Fin 128, 0 ≤ pop (v.val : Int) ∧ pop (v.val : Int) ≤ 7 := by decide +kernel
theorem pop_in {v : Int} (v0 : 0 ≤ v) (v1 : v < 128) : 0 ≤ pop v ∧ pop v ≤ 7 := by
  have := pop_7 ⟨Int.toNat v, by omega⟩
  rw [Int.toNat_of_nonneg v0] at this
  exact this
theorem x_bitc {Ln : Nat} {σ : mmSt} {D : Nat} (hD : 1 ≤ D) {v : Int} (v0 : 0 ≤ v) (v1 : v < 128) : srun (lyT Ln) (D, 0, 0, [mI v], [], σ) = some (σ, pop v) := by
  obtain ⟨d, rfl⟩ := Nat.exists_eq_add_of_le' hD
  have := pop_F ⟨Int.toNat v, by omega⟩
  rw [Int.toNat_of_nonneg v0] at this
  rw [b_Int_bitCount, this]
theorem shl_F : ∀ k : Fin 8, mshl 1 (k.val : Int) = ((2 ^ k.val : Nat) : Int) := by decide +kernel
theorem shl_1 {k : Int} (k0 : 0 ≤ k) (k1 : k ≤ 7) : mshl 1 k = ((2 ^ Int.toNat k : Nat) : Int) := by
  have := shl_F ⟨Int.toNat k, by omega⟩
  rw [Int.toNat_of_nonneg k0] at this
  exact this
theorem pow_7 {k : Int} (k0 : 0 ≤ k) (k1 : k ≤ 7) : 2 ^ Int.toNat k ≤ 128 := by
  have : Int.toNat k ≤ 7 := by omega
  exact Nat.pow_le_pow_right (by decide) this
/-- the search: the fewest bits, then the least -/
def srchL (P : Int → Bool) : Nat → Int → Int → Int → Int
  | 0, _, b, _ => b
  | n + 1, s, b, f => bif decide (pop s < f) && P s then srchL P n (s + 1) s (pop s) else srchL P n (s + 1) b f
theorem srch_in {P : Int → Bool} : ∀ (n : Nat) (s b f : Int), 0 ≤ s → s + n ≤ 128 → (b = -1000000 ∨ (0 ≤ b ∧ b < 128)) → (srchL P n s b f = -1000000 ∨ (0 ≤ srchL P n s b f ∧ srchL P n s b f < 128)) := by
  intro n
  induction n with
  | zero => intro s b f _ _ h; exact h
  | succ n ih =>
    intro s b f s0 s1 h
    rw [srchL]
    cases (decide (pop s < f) && P s)
    · exact ih (s + 1) b f (by omega) (by omega) h
    · exact ih (s + 1) s _ (by omega) (by omega) (.inr ⟨s0, by omega⟩)
def cobC (b w : Int) : Int := if w = 0 then (if b = -1000000 then b else pop b) else b
theorem x_cob {Ln : Nat} {σ : mmSt} {D : Nat} (hD : 2 ≤ D) {b w : Int} (hb : b = -1000000 ∨ (0 ≤ b ∧ b < 128)) : srun (lyT Ln) (D, 152, 0, [mI b, mI w], [], σ) = some (σ, cobC b w) := by
  obtain ⟨d, rfl⟩ := Nat.exists_eq_add_of_le' hD
  unfold cobC
  rw [b_X_countOrBits]
  by_cases c : w = 0
  · rw [if_pos c, decide_eq_false (by omega), cond_false]
    by_cases c2 : b = -1000000
    · rw [if_pos c2, decide_eq_true c2]; rfl
    · rw [if_neg c2, decide_eq_false c2, cond_false, x_bitc (by omega) (by omega) (by omega)]; rfl
  · rw [if_neg c, decide_eq_true c]; rfl
def putC (C : Cty) (p n : Int) : Cty := cup C 4 p (mmini 99 (C 4 p + n))
theorem WF_put {g : Int} {C : Cty} (w : WF g C) {p n : Int} (p0 : 0 ≤ p) (p1 : p < 7) (n0 : 0 ≤ n) : WF g (putC C p n) := by
  have := w.2.1 p p0 p1
  refine WF_upd w (.inr (.inl ⟨rfl, ?_, ?_⟩)) <;> unfold mmini <;> split <;> omega
theorem x_put58 {Ln n : Nat} {σ : mmSt} {a : Nat} {C : Cty} (k : KY n σ a C) {D : Nat} (hD : 1 ≤ D) {p m : Int} (p0 : 0 ≤ p) (p1 : p < 7) (m0 : 0 ≤ m) (m1 : m ≤ 100) : ∃ σ', srun (lyT Ln) (D, 35, 0, [mR a, mI p, mI m], [], σ) = some (σ', 0) ∧ KY n σ' a (putC C p m) ∧ frX a σ σ' := by
  obtain ⟨d, rfl⟩ := Nat.exists_eq_add_of_le' hD
  have wh := k.2.2.1.2.1 p p0 p1
  rw [b_County_putHay _ _ _ _ _ _ k.1, minb_t p0 (by omega), cond_true, cond_true, x4 (KY_X k).2.1 p p0 p1, mw (by omega) (by omega)]
  exact ⟨_, rfl, ⟨k.1, rep_upX (f := 4) (by omega) (by omega) p0 (fun _ => rfl) k.2.1, WF_put k.2.2.1 p0 p1 m0, k.2.2.2⟩, frX_up (by omega)⟩
theorem m_puts {Ln : Nat} {σ : mmSt} {r : Nat} {C : Cty} (k : KM σ r C) {D : Nat} (hD : 1 ≤ D) {p m : Int} (p0 : 0 ≤ p) (p1 : p < 7) (m0 : 0 ≤ m) (m1 : m ≤ 100) : ∃ σ', srun (lyT Ln) (D, 195, 0, [mR r, mI p, mI m, mJ], [], σ) = some (σ', 0) ∧ KM σ' r (putC C p m) ∧ frM r σ σ' := by
  obtain ⟨d, rfl⟩ := Nat.exists_eq_add_of_le' hD
  have w := k.2.2.1
  have wh := k.2.2.2.1 p p0 p1
  rw [b_M_puts _ _ _ _ _ _ k.1, mw (z := 4 + p) (by omega) (by omega), minb_t (by omega) (by omega), cond_true, cond_true, m4 k.2.1 p p0 p1, mw (by omega) (by omega)]
  have wp := WF_put k.2.2 p0 p1 m0
  by_cases c : C 4 p + m ≤ 99
  · rw [decide_eq_true c]
    have e : mmini 99 (C 4 p + m) = C 4 p + m := by unfold mmini; split <;> omega
    refine ⟨_, rfl, ⟨k.1, ?_, wp⟩, frM_up (by omega)⟩
    unfold putC
    rw [e]
    exact rep_upM (f := 4) (i := p) (by omega) (by omega) (by omega) p0 p1 k.2.1
  · rw [decide_eq_false c]
    have e : mmini 99 (C 4 p + m) = 99 := by unfold mmini; split <;> omega
    refine ⟨_, rfl, ⟨k.1, ?_, wp⟩, frM_up (by omega)⟩
    unfold putC
    rw [e]
    exact rep_upM (f := 4) (i := p) (by omega) (by omega) (by omega) p0 p1 k.2.1
def lureL (s : Int) : Nat → Int → Cty → Cty
  | 0, _, C => C
  | n + 1, p, C => lureL s n (p + 1) (bif hasB s p then putC C p 9 else C)
theorem put_0 {g : Int} {C : Cty} (w : WF g C) {p : Int} (p0 : 0 ≤ p) (p1 : p < 7) : putC C p 0 = C := by
  have := w.2.1 p p0 p1
  funext f i
  unfold putC
  rw [cup_ap]
  split
  · rename_i h
    rw [h.1, h.2]; unfold mmini; split <;> omega
  · rfl
def luredB (C : Cty) (q p n s : Int) : Bool := livesB (yearsC (Int.toNat n) (lureL s (Int.toNat (C 0 0)) 0 (zt C))) q p
theorem put_nf (C : Cty) (p n : Int) {f : Nat} {i : Int} (h : f ≠ 4) : putC C p n f i = C f i := cup_nf h
theorem lure_nf {s : Int} : ∀ (n : Nat) (p : Int) (C : Cty) {f : Nat} {i : Int}, f ≠ 4 → lureL s n p C f i = C f i := by
  intro n
  induction n with
  | zero => intro p C f i _; rfl
  | succ n ih =>
    intro p C f i h
    rw [lureL, ih _ _ h]
    cases hasB s p
    · rfl
    · exact put_nf C p 9 h
theorem x_lureL {Ln : Nat} {s q p N : Int} {D : Nat} (hD : 6 ≤ D) (q0 : 0 ≤ q) (N0 : 0 ≤ N) (N1 : N ≤ 60) : ∀ (n : Nat) (i : Int) (σ : mmSt) (C : Cty), KY 15 σ 58 C → q < C 2 0 → i + n = C 0 0 → 0 ≤ i → ∃ σ', srun (lyT Ln) (D, 89, 4, [mR 47, mI s, mI q, mI p, mI N, mI i], [], σ) = some (σ', b2i (livesB (yearsC (Int.toNat N) (lureL s n i C)) q p)) ∧ frX 58 σ σ' := by
  obtain ⟨d, rfl⟩ := Nat.exists_eq_add_of_le' hD
  intro n
  induction n with
  | zero =>
    intro i σ C k q1 e i0
    obtain ⟨σ1, e1, k1, f1⟩ := x_pass (Ln := Ln) (show 5 ≤ d + 5 by omega) N0 (by omega) k
    rw [b_Seer_isLured_4, x0 (KY_X k).2.1, decide_eq_true (by omega), cond_true, e1, Option.bind_some]
    simp only [x_lives (KY_X k1) (show 2 ≤ d + 5 by omega) q0 (show q < yearsC (Int.toNat N) C 2 0 by rw [years_nf _ _ (by omega) (by omega) (by omega)]; exact q1), Option.bind_some, dec01, cond_true]
    exact ⟨σ1, rfl, f1⟩
  | succ n ih =>
    intro i σ C k q1 e i0
    have w := k.2.2.1.1
    rw [b_Seer_isLured_4, x0 (KY_X k).2.1, decide_eq_false (by omega), cond_false, x_has (by omega), Option.bind_some, lureL, mw (by omega) (by omega)]
    simp only [dec0]
    cases hasB s i
    · exact ih (i + 1) σ C k q1 (by omega) (by omega)
    · obtain ⟨σ1, e1, k1, f1⟩ := x_put58 (Ln := Ln) k (show 1 ≤ d + 5 by omega) i0 (show i < 7 by omega) (show (0 : Int) ≤ 9 by omega) (by omega)
      obtain ⟨σ2, e2, f2⟩ := ih (i + 1) σ1 (putC C i 9) k1 (by rw [put_nf _ _ _ (by omega)]; exact q1) (by rw [put_nf _ _ _ (by omega)]; omega) (by omega)
      simp only [Bool.not_true, cond_false, e1, Option.bind_some, cond_true]
      exact ⟨σ2, e2, frX_trans f1 f2⟩
theorem x_lured {Ln : Nat} {σ : mmSt} {C : Cty} (h : rep 12 (cX σ 48) C) (w : WF 12 C) {s q p N : Int} {D : Nat} (hD : 6 ≤ D) (q0 : 0 ≤ q) (q1 : q < C 2 0) (N0 : 0 ≤ N) (N1 : N ≤ 60) : ∃ σ', srun (lyT Ln) (D, 89, 0, [mR 47, mI s, mI q, mI p, mI N, mJ], [], σ) = some (σ', b2i (luredB C q p N s)) ∧ frX 58 σ σ' := by
  obtain ⟨d, rfl⟩ := Nat.exists_eq_add_of_le' hD
  have wf := w.1
  obtain ⟨σ1, e1, k1, f1⟩ := x_begin (Ln := Ln) h w (show 2 ≤ d + 5 by omega)
  obtain ⟨σ2, e2, f2⟩ := x_lureL (Ln := Ln) (s := s) (p := p) (show 6 ≤ d + 6 by omega) q0 N0 N1 (Int.toNat (C 0 0)) 0 σ1 (zt C) k1 q1 (by show 0 + (Int.toNat (C 0 0) : Int) = C 0 0; omega) (by omega)
  rw [b_Seer_isLured, e1, Option.bind_some]
  exact ⟨σ2, e2, frX_trans f1 f2⟩
theorem x_fewL {Ln : Nat} {C : Cty} (w : WF 12 C) {q p N : Int} {D : Nat} (hD : 7 ≤ D) (q0 : 0 ≤ q) (q1 : q < C 2 0) (N0 : 0 ≤ N) (N1 : N ≤ 60) : ∀ (n : Nat) (s b f : Int) (σ : mmSt), rep 12 (cX σ 48) C → s + n = ((2 ^ Int.toNat (C 0 0) : Nat) : Int) → 0 ≤ s → ∃ σ', srun (lyT Ln) (D, 88, 6, [mR 47, mI q, mI p, mI N, mI b, mI f, mI s], [], σ) = some (σ', srchL (luredB C q p N) n s b f) ∧ frX 58 σ σ' := by
  obtain ⟨d, rfl⟩ := Nat.exists_eq_add_of_le' hD
  have wf := w.1
  have sh := shl_1 (show 0 ≤ C 0 0 by omega) (by omega)
  have p7 := pow_7 (show 0 ≤ C 0 0 by omega) (by omega)
  intro n
  induction n with
  | zero =>
    intro s b f σ h e s0
    rw [b_Seer_fewestLures_6, x0 h, sh, decide_eq_true (by omega)]
    exact ⟨σ, rfl, frX_rfl _ _⟩
  | succ n ih =>
    intro s b f σ h e s0
    obtain ⟨σ1, e1, f1⟩ := x_lured (Ln := Ln) (s := s) (p := p) h w (show 6 ≤ d + 6 by omega) q0 q1 N0 N1
    have h1 : rep 12 (cX σ1 48) C := rep_X48 (fun b j _ _ => f1 b j (by omega)) h
    rw [b_Seer_fewestLures_6, x0 h, sh, decide_eq_false (by omega), cond_false, x_bitc (by omega) s0 (by omega), Option.bind_some, mw (by omega) (by omega), srchL]
    simp only [e1, Option.bind_some, dec0, x_bitc (show 1 ≤ d + 6 by omega) s0 (show s < 128 by omega), dle]
    obtain ⟨σ2, e2, f2⟩ := ih (s + 1) b f σ h (by omega) (by omega)
    obtain ⟨σ3, e3, f3⟩ := ih (s + 1) b f σ1 h1 (by omega) (by omega)
    obtain ⟨σ4, e4, f4⟩ := ih (s + 1) s (pop s) σ1 h1 (by omega) (by omega)
    cases decide (pop s < f) <;> cases luredB C q p N s
    · exact ⟨σ2, e2, f2⟩
    · exact ⟨σ2, e2, f2⟩
    · exact ⟨σ3, e3, frX_trans f1 f3⟩
    · exact ⟨σ4, e4, frX_trans f1 f4⟩
theorem m_lureL {Ln : Nat} {s q p N x b : Int} {C0 : Cty} (q0 : 0 ≤ q) (N0 : 0 ≤ N) (N1 : N ≤ 60) (s0 : 0 ≤ s) (s1 : s < 200) : ∀ (n : Nat) (i : Int) (σ : mmSt) (C : Cty), KM σ 98 C → rep 12 (cM (σ 96)) C0 → C 0 0 = C0 0 0 → q < C 2 0 → i + n = C 0 0 → 0 ≤ i → ∃ σ' u, srun (lyT Ln) (99, 214, 49, [mR 92, mI q, mI p, mI N, mI x, mI b, mI s, mI i], [], σ) = srun (lyT Ln) (99, 214, 29, [mR 92, mI q, mI p, mI N, mI x, mI (bif livesB (yearsC (Int.toNat N) (lureL s n i C)) q p then s else b), mI (s + 1), mI u], [], σ') ∧ frM 98 σ σ' := by
  intro n
  induction n with
  | zero =>
    intro i σ C k h e0 q1 e i0
    obtain ⟨σ1, e1, k1, f1⟩ := m_years (Ln := Ln) (show 6 ≤ 98 by omega) N0 (by omega) k
    rw [b_M_lures_49, m0 h, decide_eq_true (by omega), cond_true, e1, Option.bind_some, mw (by omega) (by omega)]
    simp only [m_isIn k1 (show 3 ≤ 98 by omega) q0 (show q < yearsC (Int.toNat N) C 2 0 by rw [years_nf _ _ (by omega) (by omega) (by omega)]; exact q1), Option.bind_some, dec0]
    rw [lureL]
    refine ⟨σ1, i, ?_, f1⟩
    cases livesB (yearsC (Int.toNat N) C) q p <;> rfl
  | succ n ih =>
    intro i σ C k h e0 q1 e i0
    have w := k.2.2.1
    rw [b_M_lures_49, m0 h, decide_eq_false (by omega), cond_false, m_has (by omega), Option.bind_some, lureL, mw (z := i + 1) (by omega) (by omega)]
    simp only [dec0]
    cases hasB s i
    · obtain ⟨σ1, e1, k1, f1⟩ := m_puts (Ln := Ln) k (show 1 ≤ 98 by omega) i0 (show i < 7 by omega) (show (0 : Int) ≤ 0 by omega) (by omega)
      rw [put_0 k.2.2 i0 (by omega)] at k1
      obtain ⟨σ2, u, e2, f2⟩ := ih (i + 1) σ1 C k1 (rep_M_of (fun j => f1 96 j (by omega)) h) e0 q1 (by omega) (by omega)
      simp only [Bool.not_false, cond_true, e1, Option.bind_some, cond_false]
      exact ⟨σ2, u, e2, frM_trans f1 f2⟩
    · obtain ⟨σ1, e1, k1, f1⟩ := m_puts (Ln := Ln) k (show 1 ≤ 98 by omega) i0 (show i < 7 by omega) (show (0 : Int) ≤ 9 by omega) (by omega)
      obtain ⟨σ2, u, e2, f2⟩ := ih (i + 1) σ1 (putC C i 9) k1 (rep_M_of (fun j => f1 96 j (by omega)) h) (by rw [put_nf _ _ _ (by omega)]; exact e0) (by rw [put_nf _ _ _ (by omega)]; exact q1) (by rw [put_nf _ _ _ (by omega)]; omega) (by omega)
      simp only [Bool.not_true, cond_false, e1, Option.bind_some, cond_true]
      exact ⟨σ2, u, e2, frM_trans f1 f2⟩
theorem m_fewL {Ln : Nat} {C : Cty} (w : WF 12 C) {q p N x : Int} (q0 : 0 ≤ q) (q1 : q < C 2 0) (N0 : 0 ≤ N) (N1 : N ≤ 60) (x0 : 0 ≤ x) (x1 : x ≤ 1) : ∀ (n : Nat) (s b f : Int) (σ : mmSt) (v : mmV), rep 12 (cM (σ 96)) C → s + n = ((2 ^ Int.toNat (C 0 0) : Nat) : Int) → 0 ≤ s → (b = -1000000 ∨ (0 ≤ b ∧ b < 128)) → f = (if b = -1000000 then 8 else pop b) → ∃ σ', srun (lyT Ln) (99, 214, 29, [mR 92, mI q, mI p, mI N, mI x, mI b, mI s, v], [], σ) = some (σ', cobC (srchL (luredB C q p N) n s b f) x) ∧ frM 98 σ σ' := by
  have wf := w.1
  have sh := shl_1 (show 0 ≤ C 0 0 by omega) (by omega)
  have p7 := pow_7 (show 0 ≤ C 0 0 by omega) (by omega)
  intro n
  induction n with
  | zero =>
    intro s b f σ v h e s0 hb hf
    rw [b_M_lures_29, m0 h, sh, decide_eq_true (by omega), cond_true, m_bits (by omega), Option.bind_some]
    refine ⟨σ, ?_, frM_rfl _ _⟩
    rw [srchL]
    unfold cobC
    by_cases c : b = -1000000
    · rw [decide_eq_true c, if_pos c]
      by_cases cx : x = 0
      · rw [if_pos cx]; rfl
      · rw [if_neg cx]; rfl
    · rw [decide_eq_false c, if_neg c]
      by_cases cx : x = 0
      · rw [if_pos cx, decide_eq_true (show ¬ x = 1 by omega)]; rfl
      · rw [if_neg cx, decide_eq_false (show ¬ ¬ x = 1 by omega)]; rfl
  | succ n ih =>
    intro s b f σ v h e s0 hb hf
    have sp := pop_in s0 (show s < 128 by omega)
    have main : ∃ σ', Option.bind (srun (lyT Ln) (98, 193, 0, [mR 92, mJ], [], σ)) (fun y2 => srun (lyT Ln) (99, 214, 49, [mR 92, mI q, mI p, mI N, mI x, mI b, mI s, mI 0], [], y2.1)) = some (σ', cobC (bif luredB C q p N s then srchL (luredB C q p N) n (s + 1) s (pop s) else srchL (luredB C q p N) n (s + 1) b f) x) ∧ frM 98 σ σ' := by
      obtain ⟨σ1, e1, k1, f1⟩ := m_lay (Ln := Ln) h w (show 1 ≤ 98 by omega)
      have h1 : rep 12 (cM (σ1 96)) C := rep_M_of (fun j => f1 96 j (by omega)) h
      obtain ⟨σ2, u, e2, f2⟩ := m_lureL (Ln := Ln) (s := s) (p := p) (x := x) (b := b) (C0 := C) q0 N0 N1 s0 (by omega) (Int.toNat (C 0 0)) 0 σ1 (zt C) k1 h1 rfl q1 (by show 0 + (Int.toNat (C 0 0) : Int) = C 0 0; omega) (by omega)
      have h2 : rep 12 (cM (σ2 96)) C := rep_M_of (fun j => f2 96 j (by omega)) h1
      rw [e1, Option.bind_some, e2]
      show ∃ σ', srun (lyT Ln) (99, 214, 29, [mR 92, mI q, mI p, mI N, mI x, mI (bif luredB C q p N s then s else b), mI (s + 1), mI u], [], σ2) = _ ∧ _
      cases luredB C q p N s
      · obtain ⟨σ3, e3, f3⟩ := ih (s + 1) b f σ2 (mI u) h2 (by omega) (by omega) hb hf
        exact ⟨σ3, e3, frM_trans f1 (frM_trans f2 f3)⟩
      · obtain ⟨σ3, e3, f3⟩ := ih (s + 1) s (pop s) σ2 (mI u) h2 (by omega) (by omega) (.inr ⟨s0, by omega⟩) (by rw [if_neg (by omega)])
        exact ⟨σ3, e3, frM_trans f1 (frM_trans f2 f3)⟩
    rw [b_M_lures_29, m0 h, sh, decide_eq_false (by omega), cond_false, srchL]
    by_cases c : b = -1000000
    · rw [if_pos c] at hf
      rw [decide_eq_true c, cond_true, decide_eq_true (show pop s < f by omega), Bool.true_and]
      obtain ⟨σ', e', f'⟩ := main
      refine ⟨σ', e'.trans ?_, f'⟩
      cases luredB C q p N s <;> rfl
    · rw [if_neg c] at hf
      rw [decide_eq_false c, cond_false, m_bits (by omega), Option.bind_some]
      simp only [m_bits (show 1 ≤ 98 by omega), Option.bind_some, dle, mw (show -2147483648 ≤ s + 1 by omega) (show s + 1 < 2147483648 by omega)]
      rw [hf]
      by_cases cp : pop s < pop b
      · rw [decide_eq_true cp, Bool.true_and]
        obtain ⟨σ', e', f'⟩ := main
        rw [hf] at e'
        refine ⟨σ', e'.trans ?_, f'⟩
        cases luredB C q p N s <;> rfl
      · rw [decide_eq_false cp, Bool.false_and]
        obtain ⟨σ3, e3, f3⟩ := ih (s + 1) b f σ v h (by omega) (by omega) hb (by rw [if_neg c]; exact hf)
        rw [hf] at e3
        exact ⟨σ3, e3, f3⟩
theorem k_129 (Ln : Nat) : ck_129 Rel Ln := fun q p n x _ _ _ _ => cok_v (fun C => bif inB q (C 2 0) && (inB p (C 0 0) && (btB 1 n 30 && btB 0 x 1)) then cobC (srchL (luredB C q p n) (2 ^ Int.toNat (C 0 0)) 0 (-1000000) 8) x else -1000001)
  (fun σ C ⟨h, _, hc⟩ => by
    have b := now_b hc
    rw [b_X_lures, x_isQuarrel c48 h (by omega) (by omega) (by omega)]
    simp only [Option.bind_some, dec0, dec1, x_isParish c48 h b.1 b.2.1 (show 2 ≤ 98 by omega), x_within (show 1 ≤ 98 by omega)]
    cases hq : inB q (C 2 0)
    · exact ⟨σ, rfl, quiet_rfl _⟩
    cases hp : inB p (C 0 0)
    · exact ⟨σ, rfl, quiet_rfl _⟩
    cases hn : btB 1 n 30
    · exact ⟨σ, rfl, quiet_rfl _⟩
    cases hx : btB 0 x 1
    · exact ⟨σ, rfl, quiet_rfl _⟩
    have q1 := inB_t hq
    have n1 := btB_t hn
    have w := good_W (now_q hc hq)
    have p7 := pow_7 b.1 b.2.1
    obtain ⟨σ1, e1, f1⟩ := x_fewL (Ln := Ln) (p := p) w (show 7 ≤ 98 by omega) q1.1 q1.2 (show 0 ≤ n by omega) (by omega) (2 ^ Int.toNat (C 0 0)) 0 (-1000000) 8 σ h (by omega) (by omega)
    have si := srch_in (P := luredB C q p n) (2 ^ Int.toNat (C 0 0)) 0 (-1000000) 8 (by omega) (by omega) (.inl rfl)
    simp only [Bool.not_true, cond_false, cond_true]
    rw [b_Seer_fewestLures, e1, Option.bind_some]
    simp only [x_cob (show 2 ≤ 98 by omega) si, Option.bind_some]
    exact ⟨σ1, rfl, fr_quiet f1⟩)
  (fun σ C ⟨_, h, hc⟩ => by
    have b := now_b hc
    have h := thr h
    rw [b_M_lures, m_isQuarrel h (by omega) (by omega) (by omega)]
    simp only [Option.bind_some, dec0, dec1, m_isParish h b.1 b.2.1 (show 2 ≤ 98 by omega), m_in (show 1 ≤ 98 by omega)]
    cases hq : inB q (C 2 0)
    · exact ⟨_, rfl, q0⟩
    cases hp : inB p (C 0 0)
    · exact ⟨_, rfl, q0⟩
    cases hn : btB 1 n 30
    · exact ⟨_, rfl, q0⟩
    cases hx : btB 0 x 1
    · exact ⟨_, rfl, q0⟩
    have q1 := inB_t hq
    have n1 := btB_t hn
    have x1 := btB_t hx
    have w := good_W (now_q hc hq)
    obtain ⟨σ1, e1, f1⟩ := m_fewL (Ln := Ln) (p := p) w q1.1 q1.2 (show 0 ≤ n by omega) (by omega) x1.1 x1.2 (2 ^ Int.toNat (C 0 0)) 0 (-1000000) 8 _ mJ h (by omega) (by omega) (.inl rfl) (by rw [if_pos rfl])
    simp only [Bool.not_true, cond_false, cond_true]
    exact ⟨σ1, e1, quiet_trans q0 (frM_quiet f1)⟩)
