/-! the relation between the class's cells and the model's: text -/
def Rtape (σ : mmSt) : Prop := σ 9 1 = σ 92 11 ∧ 0 ≤ σ 92 11 ∧ σ 92 11 ≤ 120 ∧ (∀ j : Nat, (j : Int) < σ 92 11 → σ 20 j = σ 100 j ∧ 0 ≤ σ 100 j ∧ σ 100 j ≤ 255) ∧ σ 9 2 = σ 92 18
/-- rows -/
def Rrows (σ : mmSt) : Prop := σ 4 7 = σ 92 1 ∧ ∀ r : Nat, r < 8 → (σ 93 r = -1 ∧ σ 8 r = -1) ∨ (0 ≤ σ 93 r ∧ σ 93 r ≤ 2 ∧ σ 7 r = σ 93 r ∧ σ 8 r = σ 94 r ∧ 0 ≤ σ 94 r ∧ σ 94 r ≤ 40 ∧ ∀ j : Nat, (j : Int) < σ 94 r → σ 6 (40 * r + j) = σ 95 (40 * r + j))
theorem Rtape_thrown {σ : mmSt} (h : Rtape σ) : Rtape (mup σ 92 0 0) := h
theorem Rrows_thrown {σ : mmSt} (h : Rrows σ) : Rrows (mup σ 92 0 0) := h
/-- the range checks of both sides -/
theorem c_within (Ln d : Nat) (σ : mmSt) (x a b : Int) : srun (lyT Ln) ((d + 1), 150, 0, [mI x, mI a, mI b], [], σ) = some (σ, if a ≤ x ∧ x ≤ b then 1 else 0) := by
  rw [b_X_within]
  by_cases h1 : x < a
  · rw [decide_eq_true h1, cond_true, if_neg (by omega)]
  · rw [decide_eq_false h1, cond_false]
    by_cases h2 : b < x
    · rw [decide_eq_true h2, cond_true, if_neg (by omega)]
    · rw [decide_eq_false h2, cond_false, if_pos (by omega)]
theorem c_in (Ln d : Nat) (σ : mmSt) (x a b : Int) : srun (lyT Ln) ((d + 1), 156, 0, [mL x, mJ, mL a, mJ, mL b, mJ], [], σ) = some (σ, if a ≤ x ∧ x ≤ b then 1 else 0) := by
  rw [b_M_in]
  have e1 : (mlcmp x a < 0) ↔ x < a := by unfold mlcmp; split <;> (try split) <;> omega
  have e2 : (0 < mlcmp x b) ↔ b < x := by unfold mlcmp; split <;> (try split) <;> omega
  by_cases h1 : x < a
  · rw [decide_eq_true (e1.mpr h1), cond_true, if_neg (by omega)]
  · rw [decide_eq_false (fun h => h1 (e1.mp h)), cond_false]
    by_cases h2 : b < x
    · rw [decide_eq_true (e2.mpr h2), cond_true, if_neg (by omega)]
    · rw [decide_eq_false (fun h => h2 (e2.mp h)), cond_false, if_pos (by omega)]
theorem x_feed (Ln d : Nat) (σ : mmSt) (x : Int) (h : Rtape σ) : srun (lyT Ln) ((d + 3), 110, 0, [mR 4, mI x], [], σ) = if 0 ≤ x ∧ x ≤ 255 then (if σ 92 11 < 120 then some (mup (mup σ 20 (Int.toNat (σ 9 1)) x) 9 1 (σ 92 11 + 1), σ 92 11 + 1) else some (σ, -1000003)) else some (σ, -1000001) := by
  obtain ⟨h1, h2, h3, h4, h5⟩ := h
  rw [b_X_feed, c_within, Option.bind_some]
  by_cases q : 0 ≤ x ∧ x ≤ 255
  · rw [if_pos q, if_pos q]
    simp only [b_Reader_isFull, b_Reader_take]
    by_cases q2 : σ 92 11 < 120
    · have w : mwrap (σ 92 11 + 1) = σ 92 11 + 1 := mwrap_id ⟨by omega, by omega⟩
      have e : ∀ (s : mmSt) (n : Nat) (v : Int), (mup s 20 n v) 9 1 = s 9 1 := fun _ _ _ => rfl
      have e2 : ∀ (s : mmSt) (v : Int), (mup s 9 1 v) 9 1 = v := fun _ _ => rfl
      simp [h1, q2, w, e, e2, minb, h2]
    · simp [h1, q2]
  · rw [if_neg q, if_neg q]
    simp
