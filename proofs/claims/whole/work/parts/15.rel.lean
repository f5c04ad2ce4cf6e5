/-! the relation between the class's cells and the model's: text -/
def Rtape (σ : mmSt) : Prop := σ 9 1 = σ 92 11 ∧ 0 ≤ σ 92 11 ∧ σ 92 11 ≤ 120 ∧ (∀ j : Nat, (j : Int) < σ 92 11 → σ 20 j = σ 100 j ∧ 0 ≤ σ 100 j ∧ σ 100 j ≤ 255) ∧ σ 9 2 = σ 92 18
/-- rows -/
def Rrows (σ : mmSt) : Prop := σ 4 7 = σ 92 1 ∧ ∀ r : Nat, r < 8 → (σ 93 r = -1 ∧ σ 8 r = -1) ∨ (0 ≤ σ 93 r ∧ σ 93 r ≤ 2 ∧ σ 7 r = σ 93 r ∧ σ 8 r = σ 94 r ∧ 0 ≤ σ 94 r ∧ σ 94 r ≤ 40 ∧ ∀ j : Nat, (j : Int) < σ 94 r → σ 6 (40 * r + j) = σ 95 (40 * r + j))
theorem Rtape_thrown {σ : mmSt} (h : Rtape σ) : Rtape (mup σ 92 0 0) := h
theorem Rrows_thrown {σ : mmSt} (h : Rrows σ) : Rrows (mup σ 92 0 0) := h
/-- the range checks of both sides -/
theorem c_within (Ln d : Nat) (σ : mmSt) (x a b : Int) : srun (lyT Ln) ((d + 1), 150, 0, [mI x, mI a, mI b], [], σ) = some (σ, if a ≤ x ∧ x ≤ b then 1 else 0) := by
  rw [b_X_within]
  by_cases h1 : x < a
  · rw [decide_eq_true h1, cond_true, if_neg (by omega)]
  · rw [decide_eq_false h1, cond_false]
    by_cases h2 : b < x
    · rw [decide_eq_true h2, cond_true, if_neg (by omega)]
    · rw [decide_eq_false h2, cond_false, if_pos (by omega)]
