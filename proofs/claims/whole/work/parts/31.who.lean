/-! who, grids, which: the model's loops and the calls -/
theorem m_who0 {Ln : Nat} {t : Int → Int} {q r i N z6 : Int} {C : Cty} (w : WF 12 C) (q0 : 0 ≤ q) (q1 : q < C 2 0) (r0' : 0 ≤ r) (r1' : r < 8) (i0 : 0 ≤ i) (iN : i + N ≤ 40) (N0 : 0 ≤ N) (N1 : N ≤ 12) : ∀ (n : Nat) (v s : Int) (σ : mmSt), rep 12 (cM (σ 96)) C → (∀ k : Int, 0 ≤ k → k < N → σ 95 (Int.toNat (40 * r + i + k)) = t k) → v + n = 6 → 1 ≤ v → vI s → ∃ σ', srun (lyT Ln) (99, 223, 61, [mR 92, mI q, mI 0, mI r, mI i, mI N, mI z6, mI s, mI 0, mI v], [], σ) = some (σ', setL (fun v => fitL t q (Int.toNat N) 0 (cup (zt C) 8 q v)) n v s) ∧ frM 98 σ σ' := by
  have wf := w.1
  intro n
  induction n with
  | zero =>
    intro v s σ h ht e v0 vs
    rw [b_M_who_61, decide_eq_false (show ¬ ¬ (0 : Int) = 0 by omega), cond_false, decide_eq_true (show 5 < v by omega)]
    exact ⟨σ, rfl, frM_rfl _ _⟩
  | succ n ih =>
    intro v s σ h ht e v0 vs
    obtain ⟨σ1, e1, k1, f1⟩ := m_lay (Ln := Ln) h w (show 1 ≤ 98 by omega)
    have k1' : KM (mup σ1 98 (Int.toNat (32 + 4 * q + 0)) v) 98 (cup (zt C) 8 q v) := ⟨k1.1, rep_upM (C := zt C) (f := 8) (i := q) (show C 1 0 ≤ 7 ∧ C 2 0 ≤ 5 by omega) (by omega) (by omega) q0 (show q < C 2 0 from q1) k1.2.1, WF_upd k1.2.2 (.inr (.inr (.inr (.inl ⟨rfl, by omega, by omega⟩))))⟩
    have f1' : frM 98 σ1 (mup σ1 98 (Int.toNat (32 + 4 * q + 0)) v) := frM_up (by omega)
    have ht1 : ∀ k : Int, 0 ≤ k → k < N → (mup σ1 98 (Int.toNat (32 + 4 * q + 0)) v) 95 (Int.toNat (40 * r + i + k)) = t k := fun k a b => by
      rw [show (mup σ1 98 (Int.toNat (32 + 4 * q + 0)) v) 95 (Int.toNat (40 * r + i + k)) = σ1 95 (Int.toNat (40 * r + i + k)) from mup_ne (by omega)]
      exact (f1 95 _ (by omega)).trans (ht k a b)
    obtain ⟨σ2, e2, f2⟩ := m_so (Ln := Ln) (fr := 40 * r + i) q0 N0 N1 (by omega) (by omega) (show 6 ≤ 98 by omega) k1' (show q < cup (zt C) 8 q v 2 0 by rw [cup_nf (by omega)]; exact q1) ht1
    have f02 : frM 98 σ σ2 := frM_trans f1 (frM_trans f1' f2)
    have h2 : rep 12 (cM (σ2 96)) C := rep_M_of (fun j => f02 96 j (by omega)) h
    have ht2 : ∀ k : Int, 0 ≤ k → k < N → σ2 95 (Int.toNat (40 * r + i + k)) = t k := fun k a b => (f02 95 _ (by omega)).trans (ht k a b)
    rw [b_M_who_61, decide_eq_false (show ¬ ¬ (0 : Int) = 0 by omega), cond_false, decide_eq_false (show ¬ 5 < v by omega), cond_false, e1, Option.bind_some, mw (z := v + 1) (by omega) (by omega), setL, mor_0 vs]
    simp only [mw (show -2147483648 ≤ 4 * q by omega) (show 4 * q < 2147483648 by omega), mw (show -2147483648 ≤ 32 + 4 * q by omega) (show 32 + 4 * q < 2147483648 by omega), mw (show -2147483648 ≤ 32 + 4 * q + 0 by omega) (show 32 + 4 * q + 0 < 2147483648 by omega), minb_t (show 0 ≤ 32 + 4 * q + 0 by omega) (show 32 + 4 * q + 0 < ((52 : Nat) : Int) by omega), mw (show -2147483648 ≤ 40 * r by omega) (show 40 * r < 2147483648 by omega), mw (show -2147483648 ≤ 40 * r + i by omega) (show 40 * r + i < 2147483648 by omega), cond_true, e2, Option.bind_some, dec0]
    obtain ⟨σ3, e3, f3⟩ := ih (v + 1) s σ2 h2 ht2 (by omega) (by omega) vs
    obtain ⟨σ4, e4, f4⟩ := ih (v + 1) (mor s (mshl 1 v)) σ2 h2 ht2 (by omega) (by omega) (mor_v _ _)
    cases fitL t q (Int.toNat N) 0 (cup (zt C) 8 q v)
    · exact ⟨σ3, e3, frM_trans f02 f3⟩
    · exact ⟨σ4, e4, frM_trans f02 f4⟩
theorem m_who1 {Ln : Nat} {t : Int → Int} {q r i N z6 : Int} {C : Cty} (w : WF 12 C) (q0 : 0 ≤ q) (q1 : q < C 2 0) (r0' : 0 ≤ r) (r1' : r < 8) (i0 : 0 ≤ i) (iN : i + N ≤ 40) (N0 : 0 ≤ N) (N1 : N ≤ 12) : ∀ (n : Nat) (v s : Int) (σ : mmSt), rep 12 (cM (σ 96)) C → (∀ k : Int, 0 ≤ k → k < N → σ 95 (Int.toNat (40 * r + i + k)) = t k) → v + n = 10 → 1 ≤ v → vI s → ∃ σ', srun (lyT Ln) (99, 223, 61, [mR 92, mI q, mI 1, mI r, mI i, mI N, mI z6, mI s, mI 2, mI v], [], σ) = some (σ', setL (fun v => fitL t q (Int.toNat N) 0 (cup (zt C) 10 q v)) n v s) ∧ frM 98 σ σ' := by
  have wf := w.1
  intro n
  induction n with
  | zero =>
    intro v s σ h ht e v0 vs
    rw [b_M_who_61, decide_eq_true (show ¬ (1 : Int) = 0 by omega), cond_true, decide_eq_false (show ¬ ¬ (1 : Int) = 1 by omega), cond_false, decide_eq_true (show 9 < v by omega)]
    exact ⟨σ, rfl, frM_rfl _ _⟩
  | succ n ih =>
    intro v s σ h ht e v0 vs
    obtain ⟨σ1, e1, k1, f1⟩ := m_lay (Ln := Ln) h w (show 1 ≤ 98 by omega)
    have k1' : KM (mup σ1 98 (Int.toNat (32 + 4 * q + 2)) v) 98 (cup (zt C) 10 q v) := ⟨k1.1, rep_upM (C := zt C) (f := 10) (i := q) (show C 1 0 ≤ 7 ∧ C 2 0 ≤ 5 by omega) (by omega) (by omega) q0 (show q < C 2 0 from q1) k1.2.1, WF_upd k1.2.2 (.inr (.inr (.inr (.inr (.inr (.inl ⟨rfl, by omega, by omega⟩))))))⟩
    have f1' : frM 98 σ1 (mup σ1 98 (Int.toNat (32 + 4 * q + 2)) v) := frM_up (by omega)
    have ht1 : ∀ k : Int, 0 ≤ k → k < N → (mup σ1 98 (Int.toNat (32 + 4 * q + 2)) v) 95 (Int.toNat (40 * r + i + k)) = t k := fun k a b => by
      rw [show (mup σ1 98 (Int.toNat (32 + 4 * q + 2)) v) 95 (Int.toNat (40 * r + i + k)) = σ1 95 (Int.toNat (40 * r + i + k)) from mup_ne (by omega)]
      exact (f1 95 _ (by omega)).trans (ht k a b)
    obtain ⟨σ2, e2, f2⟩ := m_so (Ln := Ln) (fr := 40 * r + i) q0 N0 N1 (by omega) (by omega) (show 6 ≤ 98 by omega) k1' (show q < cup (zt C) 10 q v 2 0 by rw [cup_nf (by omega)]; exact q1) ht1
    have f02 : frM 98 σ σ2 := frM_trans f1 (frM_trans f1' f2)
    have h2 : rep 12 (cM (σ2 96)) C := rep_M_of (fun j => f02 96 j (by omega)) h
    have ht2 : ∀ k : Int, 0 ≤ k → k < N → σ2 95 (Int.toNat (40 * r + i + k)) = t k := fun k a b => (f02 95 _ (by omega)).trans (ht k a b)
    rw [b_M_who_61, decide_eq_true (show ¬ (1 : Int) = 0 by omega), cond_true, decide_eq_false (show ¬ ¬ (1 : Int) = 1 by omega), cond_false, decide_eq_false (show ¬ 9 < v by omega), cond_false, e1, Option.bind_some, mw (z := v + 1) (by omega) (by omega), setL, mor_0 vs]
    simp only [mw (show -2147483648 ≤ 4 * q by omega) (show 4 * q < 2147483648 by omega), mw (show -2147483648 ≤ 32 + 4 * q by omega) (show 32 + 4 * q < 2147483648 by omega), mw (show -2147483648 ≤ 32 + 4 * q + 2 by omega) (show 32 + 4 * q + 2 < 2147483648 by omega), minb_t (show 0 ≤ 32 + 4 * q + 2 by omega) (show 32 + 4 * q + 2 < ((52 : Nat) : Int) by omega), mw (show -2147483648 ≤ 40 * r by omega) (show 40 * r < 2147483648 by omega), mw (show -2147483648 ≤ 40 * r + i by omega) (show 40 * r + i < 2147483648 by omega), cond_true, e2, Option.bind_some, dec0]
    obtain ⟨σ3, e3, f3⟩ := ih (v + 1) s σ2 h2 ht2 (by omega) (by omega) vs
    obtain ⟨σ4, e4, f4⟩ := ih (v + 1) (mor s (mshl 1 v)) σ2 h2 ht2 (by omega) (by omega) (mor_v _ _)
    cases fitL t q (Int.toNat N) 0 (cup (zt C) 10 q v)
    · exact ⟨σ3, e3, frM_trans f02 f3⟩
    · exact ⟨σ4, e4, frM_trans f02 f4⟩
theorem m_who2 {Ln : Nat} {t : Int → Int} {q r i N z6 : Int} {C : Cty} (w : WF 12 C) (q0 : 0 ≤ q) (q1 : q < C 2 0) (r0' : 0 ≤ r) (r1' : r < 8) (i0 : 0 ≤ i) (iN : i + N ≤ 40) (N0 : 0 ≤ N) (N1 : N ≤ 12) : ∀ (n : Nat) (v s : Int) (σ : mmSt), rep 12 (cM (σ 96)) C → (∀ k : Int, 0 ≤ k → k < N → σ 95 (Int.toNat (40 * r + i + k)) = t k) → v + n = C 0 0 → 0 ≤ v → vI s → ∃ σ', srun (lyT Ln) (99, 223, 61, [mR 92, mI q, mI 2, mI r, mI i, mI N, mI z6, mI s, mI 1, mI v], [], σ) = some (σ', setL (fun v => fitL t q (Int.toNat N) 0 (cup (zt C) 9 q v)) n v s) ∧ frM 98 σ σ' := by
  have wf := w.1
  intro n
  induction n with
  | zero =>
    intro v s σ h ht e v0 vs
    rw [b_M_who_61, decide_eq_true (show ¬ (2 : Int) = 0 by omega), cond_true, decide_eq_true (show ¬ (2 : Int) = 1 by omega), cond_true, m0 h, mw (z := C 0 0 - 1) (by omega) (by omega), decide_eq_true (show C 0 0 - 1 < v by omega)]
    exact ⟨σ, rfl, frM_rfl _ _⟩
  | succ n ih =>
    intro v s σ h ht e v0 vs
    obtain ⟨σ1, e1, k1, f1⟩ := m_lay (Ln := Ln) h w (show 1 ≤ 98 by omega)
    have k1' : KM (mup σ1 98 (Int.toNat (32 + 4 * q + 1)) v) 98 (cup (zt C) 9 q v) := ⟨k1.1, rep_upM (C := zt C) (f := 9) (i := q) (show C 1 0 ≤ 7 ∧ C 2 0 ≤ 5 by omega) (by omega) (by omega) q0 (show q < C 2 0 from q1) k1.2.1, WF_upd k1.2.2 (.inr (.inr (.inr (.inr (.inl ⟨rfl, by omega, show v < C 0 0 by omega⟩)))))⟩
    have f1' : frM 98 σ1 (mup σ1 98 (Int.toNat (32 + 4 * q + 1)) v) := frM_up (by omega)
    have ht1 : ∀ k : Int, 0 ≤ k → k < N → (mup σ1 98 (Int.toNat (32 + 4 * q + 1)) v) 95 (Int.toNat (40 * r + i + k)) = t k := fun k a b => by
      rw [show (mup σ1 98 (Int.toNat (32 + 4 * q + 1)) v) 95 (Int.toNat (40 * r + i + k)) = σ1 95 (Int.toNat (40 * r + i + k)) from mup_ne (by omega)]
      exact (f1 95 _ (by omega)).trans (ht k a b)
    obtain ⟨σ2, e2, f2⟩ := m_so (Ln := Ln) (fr := 40 * r + i) q0 N0 N1 (by omega) (by omega) (show 6 ≤ 98 by omega) k1' (show q < cup (zt C) 9 q v 2 0 by rw [cup_nf (by omega)]; exact q1) ht1
    have f02 : frM 98 σ σ2 := frM_trans f1 (frM_trans f1' f2)
    have h2 : rep 12 (cM (σ2 96)) C := rep_M_of (fun j => f02 96 j (by omega)) h
    have ht2 : ∀ k : Int, 0 ≤ k → k < N → σ2 95 (Int.toNat (40 * r + i + k)) = t k := fun k a b => (f02 95 _ (by omega)).trans (ht k a b)
    rw [b_M_who_61, decide_eq_true (show ¬ (2 : Int) = 0 by omega), cond_true, decide_eq_true (show ¬ (2 : Int) = 1 by omega), cond_true, m0 h, mw (z := C 0 0 - 1) (by omega) (by omega), decide_eq_false (show ¬ C 0 0 - 1 < v by omega), cond_false, e1, Option.bind_some, mw (z := v + 1) (by omega) (by omega), setL, mor_0 vs]
    simp only [mw (show -2147483648 ≤ 4 * q by omega) (show 4 * q < 2147483648 by omega), mw (show -2147483648 ≤ 32 + 4 * q by omega) (show 32 + 4 * q < 2147483648 by omega), mw (show -2147483648 ≤ 32 + 4 * q + 1 by omega) (show 32 + 4 * q + 1 < 2147483648 by omega), minb_t (show 0 ≤ 32 + 4 * q + 1 by omega) (show 32 + 4 * q + 1 < ((52 : Nat) : Int) by omega), mw (show -2147483648 ≤ 40 * r by omega) (show 40 * r < 2147483648 by omega), mw (show -2147483648 ≤ 40 * r + i by omega) (show 40 * r + i < 2147483648 by omega), cond_true, e2, Option.bind_some, dec0]
    obtain ⟨σ3, e3, f3⟩ := ih (v + 1) s σ2 h2 ht2 (by omega) (by omega) vs
    obtain ⟨σ4, e4, f4⟩ := ih (v + 1) (mor s (mshl 1 v)) σ2 h2 ht2 (by omega) (by omega) (mor_v _ _)
    cases fitL t q (Int.toNat N) 0 (cup (zt C) 9 q v)
    · exact ⟨σ3, e3, frM_trans f02 f3⟩
    · exact ⟨σ4, e4, frM_trans f02 f4⟩
theorem m_gridsF {Ln : Nat} {t : Int → Int} {p q r i N z6 : Int} {C : Cty} (w : WF 12 C) (p0 : 0 ≤ p) (p1 : p < C 1 0) (q0 : 0 ≤ q) (q1 : q < C 2 0) (r0' : 0 ≤ r) (r1' : r < 8) (i0 : 0 ≤ i) (iN : i + N ≤ 40) (N0 : 0 ≤ N) (N1 : N ≤ 12) : ∀ (n : Nat) (v s : Int) (σ : mmSt), rep 12 (cM (σ 96)) C → (∀ k : Int, 0 ≤ k → k < N → σ 95 (Int.toNat (40 * r + i + k)) = t k) → v + n = 10 → 0 ≤ v → vI s → ∃ σ', srun (lyT Ln) (99, 224, 36, [mR 92, mI p, mI q, mI r, mI i, mI N, mI z6, mI s, mI v], [], σ) = some (σ', setL (fun v => fitL t q (Int.toNat N) 0 (cup (zt C) 7 p v)) n v s) ∧ frM 98 σ σ' := by
  have wf := w.1
  intro n
  induction n with
  | zero =>
    intro v s σ h ht e v0 vs
    rw [b_M_grids_36, decide_eq_true (show 10 ≤ v by omega)]
    exact ⟨σ, rfl, frM_rfl _ _⟩
  | succ n ih =>
    intro v s σ h ht e v0 vs
    obtain ⟨σ1, e1, k1, f1⟩ := m_lay (Ln := Ln) h w (show 1 ≤ 98 by omega)
    have k1' : KM (mup σ1 98 (Int.toNat (11 + 3 * p + 2)) v) 98 (cup (zt C) 7 p v) := ⟨k1.1, rep_upM (C := zt C) (f := 7) (i := p) (show C 1 0 ≤ 7 ∧ C 2 0 ≤ 5 by omega) (by omega) (by omega) p0 (show p < C 1 0 from p1) k1.2.1, WF_upd k1.2.2 (.inr (.inr (.inl ⟨rfl, by omega, by omega⟩)))⟩
    have f1' : frM 98 σ1 (mup σ1 98 (Int.toNat (11 + 3 * p + 2)) v) := frM_up (by omega)
    have ht1 : ∀ k : Int, 0 ≤ k → k < N → (mup σ1 98 (Int.toNat (11 + 3 * p + 2)) v) 95 (Int.toNat (40 * r + i + k)) = t k := fun k a b => by
      rw [show (mup σ1 98 (Int.toNat (11 + 3 * p + 2)) v) 95 (Int.toNat (40 * r + i + k)) = σ1 95 (Int.toNat (40 * r + i + k)) from mup_ne (by omega)]
      exact (f1 95 _ (by omega)).trans (ht k a b)
    obtain ⟨σ2, e2, f2⟩ := m_so (Ln := Ln) (fr := 40 * r + i) q0 N0 N1 (by omega) (by omega) (show 6 ≤ 98 by omega) k1' (show q < cup (zt C) 7 p v 2 0 by rw [cup_nf (by omega)]; exact q1) ht1
    have f02 : frM 98 σ σ2 := frM_trans f1 (frM_trans f1' f2)
    have h2 : rep 12 (cM (σ2 96)) C := rep_M_of (fun j => f02 96 j (by omega)) h
    have ht2 : ∀ k : Int, 0 ≤ k → k < N → σ2 95 (Int.toNat (40 * r + i + k)) = t k := fun k a b => (f02 95 _ (by omega)).trans (ht k a b)
    rw [b_M_grids_36, decide_eq_false (show ¬ 10 ≤ v by omega), cond_false, e1, Option.bind_some, mw (z := v + 1) (by omega) (by omega), setL, mor_0 vs]
    simp only [mw (show -2147483648 ≤ 3 * p by omega) (show 3 * p < 2147483648 by omega), mw (show -2147483648 ≤ 11 + 3 * p by omega) (show 11 + 3 * p < 2147483648 by omega), mw (show -2147483648 ≤ 11 + 3 * p + 2 by omega) (show 11 + 3 * p + 2 < 2147483648 by omega), minb_t (show 0 ≤ 11 + 3 * p + 2 by omega) (show 11 + 3 * p + 2 < ((52 : Nat) : Int) by omega), mw (show -2147483648 ≤ 40 * r by omega) (show 40 * r < 2147483648 by omega), mw (show -2147483648 ≤ 40 * r + i by omega) (show 40 * r + i < 2147483648 by omega), cond_true, e2, Option.bind_some, dec0]
    obtain ⟨σ3, e3, f3⟩ := ih (v + 1) s σ2 h2 ht2 (by omega) (by omega) vs
    obtain ⟨σ4, e4, f4⟩ := ih (v + 1) (mor s (mshl 1 v)) σ2 h2 ht2 (by omega) (by omega) (mor_v _ _)
    cases fitL t q (Int.toNat N) 0 (cup (zt C) 7 p v)
    · exact ⟨σ3, e3, frM_trans f02 f3⟩
    · exact ⟨σ4, e4, frM_trans f02 f4⟩
theorem m_whichF {Ln : Nat} {t : Int → Int} {r i N z6 : Int} {C : Cty} (w : WF 12 C)  (r0' : 0 ≤ r) (r1' : r < 8) (i0 : 0 ≤ i) (iN : i + N ≤ 40) (N0 : 0 ≤ N) (N1 : N ≤ 12) : ∀ (n : Nat) (v s : Int) (σ : mmSt), rep 12 (cM (σ 96)) C → (∀ k : Int, 0 ≤ k → k < N → σ 95 (Int.toNat (40 * r + i + k)) = t k) → v + n = C 2 0 → 0 ≤ v → vI s → ∃ σ', srun (lyT Ln) (99, 225, 33, [mR 92, mI r, mI i, mI N, mI z6, mI s, mI v], [], σ) = some (σ', setL (fun v => fitL t v (Int.toNat N) 0 (zt C)) n v s) ∧ frM 98 σ σ' := by
  have wf := w.1
  intro n
  induction n with
  | zero =>
    intro v s σ h ht e v0 vs
    rw [b_M_which_33, m2 h, decide_eq_true (show C 2 0 ≤ v by omega)]
    exact ⟨σ, rfl, frM_rfl _ _⟩
  | succ n ih =>
    intro v s σ h ht e v0 vs
    obtain ⟨σ1, e1, k1, f1⟩ := m_lay (Ln := Ln) h w (show 1 ≤ 98 by omega)
    have k1' : KM σ1 98 (zt C) := k1
    have f1' : frM 98 σ1 σ1 := frM_rfl _ _
    have ht1 : ∀ k : Int, 0 ≤ k → k < N → σ1 95 (Int.toNat (40 * r + i + k)) = t k := fun k a b => by
      rw [show σ1 95 (Int.toNat (40 * r + i + k)) = σ1 95 (Int.toNat (40 * r + i + k)) from rfl]
      exact (f1 95 _ (by omega)).trans (ht k a b)
    obtain ⟨σ2, e2, f2⟩ := m_so (Ln := Ln) (fr := 40 * r + i) v0 N0 N1 (by omega) (by omega) (show 6 ≤ 98 by omega) k1' (show v < C 2 0 by omega) ht1
    have f02 : frM 98 σ σ2 := frM_trans f1 (frM_trans f1' f2)
    have h2 : rep 12 (cM (σ2 96)) C := rep_M_of (fun j => f02 96 j (by omega)) h
    have ht2 : ∀ k : Int, 0 ≤ k → k < N → σ2 95 (Int.toNat (40 * r + i + k)) = t k := fun k a b => (f02 95 _ (by omega)).trans (ht k a b)
    rw [b_M_which_33, m2 h, decide_eq_false (show ¬ C 2 0 ≤ v by omega), cond_false, e1, Option.bind_some, mw (z := v + 1) (by omega) (by omega), setL, mor_0 vs]
    simp only [mw (show -2147483648 ≤ 40 * r by omega) (show 40 * r < 2147483648 by omega), mw (show -2147483648 ≤ 40 * r + i by omega) (show 40 * r + i < 2147483648 by omega), cond_true, e2, Option.bind_some, dec0]
    obtain ⟨σ3, e3, f3⟩ := ih (v + 1) s σ2 h2 ht2 (by omega) (by omega) vs
    obtain ⟨σ4, e4, f4⟩ := ih (v + 1) (mor s (mshl 1 v)) σ2 h2 ht2 (by omega) (by omega) (mor_v _ _)
    cases fitL t v (Int.toNat N) 0 (zt C)
    · exact ⟨σ3, e3, frM_trans f02 f3⟩
    · exact ⟨σ4, e4, frM_trans f02 f4⟩
theorem stat_ok {σ σ1 σ2 : mmSt} {v : Int} (w : Rrows σ) (q1 : quiet σ σ1) (q2 : quiet (mup (mup (mup σ1 4 7 v) 92 0 0) 92 1 v) σ2) : rowq σ (mup σ1 4 7 v) ∧ rowq (mup σ1 4 7 v) σ2 ∧ Rrows σ2 := by
  have q3 : ∀ b j, ¬ scr b j → σ2 b j = (mup (mup (mup σ1 4 7 v) 92 0 0) 92 1 v) b j := q2
  refine ⟨rowq_trans (rowq_q q1) (rowq_up (by unfold rowc; omega)), rowq_trans (rowq_up (i := 0) (by unfold scr; omega)) (rowq_trans (rowq_up (by unfold rowc; omega)) (rowq_q q2)), Rrows_st (v := v) w (fun b j h => ?_) ?_ ?_⟩
  · rw [q3 b j (by unfold scr; omega), mup_ne (by omega), mup_ne (by omega), mup_ne (by omega), q1 b j (by unfold scr; omega)]
  · rw [q3 4 7 (by unfold scr; omega), mup_ne (by omega), mup_ne (by omega), mup_eq]
  · rw [q3 92 1 (by unfold scr; omega), mup_eq]
theorem bad_ok {σ : mmSt} (w : Rrows σ) : rowq σ σ ∧ rowq σ (mup σ 92 0 0) ∧ Rrows (mup σ 92 0 0) := ⟨rowq_rfl _, rowq_q q0, rows_of (fun b j h => mup_ne (by omega)) w⟩
theorem rows_N {σ : mmSt} {r i n : Int} (hf : fndC σ r i n = 0) (a : rowR σ (Int.toNat r)) (r0 : 0 ≤ r) (r1 : r < 8) (n0 : 0 ≤ n) : 0 ≤ i ∧ i + n ≤ 40 ∧ ∀ k : Int, 0 ≤ k → k < n → σ 6 (Int.toNat (40 * r + i + k)) = σ 95 (Int.toNat (40 * r + i + k)) := by
  unfold fndC at hf
  rcases a with a | ⟨a1, a2, a3, a4, a5, a6, a7⟩
  · rw [if_pos a.1] at hf; omega
  · rw [if_neg (by omega)] at hf
    by_cases c : 0 ≤ i ∧ 0 ≤ n ∧ i + n ≤ σ 94 (Int.toNat r)
    · refine ⟨c.1, by omega, fun k k0 k1 => ?_⟩
      have := a7 (Int.toNat (i + k)) (by omega)
      rw [show Int.toNat (40 * r + i + k) = 40 * Int.toNat r + Int.toNat (i + k) by omega]
      exact this
    · rw [if_neg c] at hf; omega
theorem x_tell {Ln : Nat} {σ : mmSt} {r i N : Int} (r0 : 0 ≤ r) (r1 : r < 8) (i0 : 0 ≤ i) (iN : i + N ≤ 40) (N0 : 0 ≤ N) (N1 : N ≤ 12) {D : Nat} (hD : 1 ≤ D) : ∃ σ', srun (lyT Ln) (D, 76, 0, [mR 5, mI r, mI i, mI N, mR 68, mJ], [], σ) = some (σ', 0) ∧ quiet σ σ' ∧ (∀ k : Int, 0 ≤ k → k < N → σ' 68 (Int.toNat k) = σ 6 (Int.toNat (40 * r + i + k))) := by
  obtain ⟨d, rfl⟩ := Nat.exists_eq_add_of_le' hD
  obtain ⟨σ', e, f⟩ := x_tellL (Ln := Ln) r0 r1 i0 iN N1 (show 1 ≤ d + 1 by omega) (Int.toNat N) 0 σ (by omega) (by omega)
  rw [b_Rows_tell]
  refine ⟨σ', e, fun b j h => by unfold scr at h; rw [f, if_neg (by omega)], fun k k0 k1 => ?_⟩
  rw [f, if_pos (by omega), Int.toNat_of_nonneg k0]
