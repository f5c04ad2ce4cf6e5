set_option maxHeartbeats 4000000 in
set_option maxRecDepth 100000 in
theorem st_fin (xs : Nat → Int) : sM (sX (st0 xs)) = stI xs := by
  funext a j
  rcases Nat.lt_or_ge a 105 with h | h
  · match a, h with
    | 0, _ => rfl
    | 1, _ => rfl
    | 2, _ => rfl
    | 3, _ => rfl
    | 4, _ => rfl
    | 5, _ => rfl
    | 6, _ => rfl
    | 7, _ => rfl
    | 8, _ =>
      rcases Nat.lt_or_ge j 8 with hj | hj
      · match j, hj with
        | 0, _ => rfl
        | 1, _ => rfl
        | 2, _ => rfl
        | 3, _ => rfl
        | 4, _ => rfl
        | 5, _ => rfl
        | 6, _ => rfl
        | 7, _ => rfl
        | j + 8, hj => omega
      · have hn : ∀ c, c < 8 → (j = c) = False := fun c hc => eq_false (by omega)
        have h8 : (j < 8) = False := eq_false (by omega)
        simp (discharger := decide) [sM, sX, stI, mup, mzero, hn, h8]
        rfl
    | 9, _ => rfl
    | 10, _ => rfl
    | 11, _ => rfl
    | 12, _ => rfl
    | 13, _ => rfl
    | 14, _ => rfl
    | 15, _ => rfl
    | 16, _ => rfl
    | 17, _ => rfl
    | 18, _ => rfl
    | 19, _ => rfl
    | 20, _ => rfl
    | 21, _ => rfl
    | 22, _ => rfl
    | 23, _ => rfl
    | 24, _ => rfl
    | 25, _ => rfl
    | 26, _ => rfl
    | 27, _ => rfl
    | 28, _ => rfl
    | 29, _ => rfl
    | 30, _ => rfl
    | 31, _ => rfl
    | 32, _ => rfl
    | 33, _ => rfl
    | 34, _ => rfl
    | 35, _ => rfl
    | 36, _ => rfl
    | 37, _ => rfl
    | 38, _ => rfl
    | 39, _ => rfl
    | 40, _ => rfl
    | 41, _ => rfl
    | 42, _ => rfl
    | 43, _ => rfl
    | 44, _ => rfl
    | 45, _ => rfl
    | 46, _ => rfl
    | 47, _ => rfl
    | 48, _ => rfl
    | 49, _ => rfl
    | 50, _ => rfl
    | 51, _ => rfl
    | 52, _ => rfl
    | 53, _ => rfl
    | 54, _ => rfl
    | 55, _ => rfl
    | 56, _ => rfl
    | 57, _ => rfl
    | 58, _ => rfl
    | 59, _ => rfl
    | 60, _ => rfl
    | 61, _ => rfl
    | 62, _ => rfl
    | 63, _ => rfl
    | 64, _ => rfl
    | 65, _ => rfl
    | 66, _ => rfl
    | 67, _ => rfl
    | 68, _ => rfl
    | 69, _ => rfl
    | 70, _ => rfl
    | 71, _ => rfl
    | 72, _ => rfl
    | 73, _ => rfl
    | 74, _ => rfl
    | 75, _ => rfl
    | 76, _ => rfl
    | 77, _ => rfl
    | 78, _ => rfl
    | 79, _ => rfl
    | 80, _ => rfl
    | 81, _ => rfl
    | 82, _ => rfl
    | 83, _ => rfl
    | 84, _ => rfl
    | 85, _ => rfl
    | 86, _ => rfl
    | 87, _ => rfl
    | 88, _ => rfl
    | 89, _ => rfl
    | 90, _ => rfl
    | 91, _ => rfl
    | 92, _ => rfl
    | 93, _ =>
      rcases Nat.lt_or_ge j 8 with hj | hj
      · match j, hj with
        | 0, _ => rfl
        | 1, _ => rfl
        | 2, _ => rfl
        | 3, _ => rfl
        | 4, _ => rfl
        | 5, _ => rfl
        | 6, _ => rfl
        | 7, _ => rfl
        | j + 8, hj => omega
      · have hn : ∀ c, c < 8 → (j = c) = False := fun c hc => eq_false (by omega)
        have h8 : (j < 8) = False := eq_false (by omega)
        simp (discharger := decide) [sM, sX, stI, mup, mzero, hn, h8]
        rfl
    | 94, _ => rfl
    | 95, _ => rfl
    | 96, _ => rfl
    | 97, _ => rfl
    | 98, _ => rfl
    | 99, _ => rfl
    | 100, _ => rfl
    | 101, _ => rfl
    | 102, _ => rfl
    | 103, _ => rfl
    | 104, _ => rfl
    | k + 105, h => omega
  · have hn : ∀ c, c < 105 → (a = c) = False := fun c hc => eq_false (by omega)
    have h2 : (a < 47) = False := eq_false (by omega)
    have hz : ∀ (σ : mmSt) (c : Nat), c < 105 → mzero σ c a j = σ a j := fun σ c hc => if_neg (by omega)
    have hu : ∀ (σ : mmSt) (c i : Nat) (v : Int), c < 105 → mup σ c i v a j = σ a j := fun σ c i v hc => if_neg (by omega)
    unfold sM sX
    rw [hz _ 104 (by decide), hz _ 103 (by decide), hz _ 102 (by decide), hz _ 101 (by decide), hz _ 100 (by decide), hz _ 99 (by decide), hz _ 98 (by decide), hz _ 97 (by decide), hz _ 96 (by decide), hz _ 95 (by decide), hz _ 94 (by decide), hu _ 93 _ _ (by decide), hu _ 93 _ _ (by decide), hu _ 93 _ _ (by decide), hu _ 93 _ _ (by decide), hu _ 93 _ _ (by decide), hu _ 93 _ _ (by decide), hu _ 93 _ _ (by decide), hu _ 93 _ _ (by decide), hz _ 93 (by decide), hz _ 92 (by decide), hz _ 91 (by decide), hz _ 90 (by decide), hz _ 89 (by decide), hz _ 88 (by decide), hz _ 87 (by decide), hz _ 86 (by decide), hz _ 85 (by decide), hz _ 84 (by decide), hz _ 83 (by decide), hz _ 82 (by decide), hz _ 81 (by decide), hz _ 80 (by decide), hz _ 79 (by decide), hz _ 78 (by decide), hz _ 77 (by decide), hz _ 76 (by decide), hz _ 75 (by decide), hz _ 74 (by decide), hz _ 73 (by decide), hz _ 72 (by decide), hz _ 71 (by decide), hz _ 70 (by decide), hz _ 69 (by decide), hz _ 68 (by decide), hz _ 67 (by decide), hz _ 66 (by decide), hz _ 65 (by decide), hz _ 64 (by decide), hz _ 63 (by decide), hz _ 62 (by decide), hz _ 61 (by decide), hz _ 60 (by decide), hz _ 59 (by decide), hz _ 58 (by decide), hz _ 57 (by decide), hz _ 56 (by decide), hz _ 55 (by decide), hz _ 54 (by decide), hz _ 53 (by decide), hz _ 52 (by decide), hz _ 51 (by decide), hz _ 50 (by decide), hz _ 49 (by decide), hz _ 48 (by decide), hz _ 47 (by decide)]
    show (if 22 ≤ a ∧ a < 47 then _ else _) = _
    rw [if_neg (show ¬ (22 ≤ a ∧ a < 47) by omega), hz _ 21 (by decide), hz _ 20 (by decide), hz _ 19 (by decide), hz _ 18 (by decide), hz _ 17 (by decide), hz _ 16 (by decide), hz _ 15 (by decide), hz _ 14 (by decide), hz _ 13 (by decide), hz _ 12 (by decide), hz _ 11 (by decide), hz _ 10 (by decide), hz _ 9 (by decide), hu _ 8 _ _ (by decide), hu _ 8 _ _ (by decide), hu _ 8 _ _ (by decide), hu _ 8 _ _ (by decide), hu _ 8 _ _ (by decide), hu _ 8 _ _ (by decide), hu _ 8 _ _ (by decide), hu _ 8 _ _ (by decide), hz _ 8 (by decide), hz _ 7 (by decide), hz _ 6 (by decide), hz _ 5 (by decide), hz _ 4 (by decide)]
    show (if a = 0 then xs j else ro_tab a j) = (if a = 0 then xs j else if (a = 8 ∨ a = 93) ∧ j < 8 then -1 else ro_tab a j)
    rw [if_neg (show ¬ a = 0 by omega), if_neg (show ¬ a = 0 by omega), if_neg (show ¬ ((a = 8 ∨ a = 93) ∧ j < 8) by omega)]
theorem law_start (Ln : Nat) (xs : Nat → Int) : grun mstep (ly0 Ln, (100, 242, 0, [mR 0, mJ, mJ, mJ], [], st0 xs)) = grun mstep (lyT Ln, (100, 242, 10, [mR 0, mR 4, mR 92, mI 0], [], stI xs)) := by
  have hX := (grun_iff mstep _ _).mpr ⟨1000, ctorX (fun k => .inl (false, if k = 0 then Ln else 6)) (st0 xs)⟩
  have hM := (grun_iff mstep _ _).mpr ⟨1000, ctorM (fX (fun k => .inl (false, if k = 0 then Ln else 6))) (sX (st0 xs))⟩
  unfold ly0
  rw [law_b0, hX, Option.bind_some]
  show grun mstep ((92, 1475, fX (fun k => .inl (false, if k = 0 then Ln else 6))), (100, 242, 3, [mR 0, mJ, mJ, mJ], [mR 4], sX (st0 xs))) = _
  rw [law_b3, hM, Option.bind_some]
  show grun mstep ((105, 3489, fM (fX (fun k => .inl (false, if k = 0 then Ln else 6)))), (100, 242, 7, [mR 0, mR 4, mJ, mJ], [mR 92], sM (sX (st0 xs)))) = _
  rw [law_b7, lay_fin, st_fin]
  rfl
/-- what is left of the pure claim: the loop of the law, with a layout that stays -/
theorem pure_of (h : ∀ (Ln : Nat) (xs : Nat → Int), Ln ≤ 384 → (∀ j, vI (xs j)) → ∃ σ', srun (lyT Ln) (100, 242, 10, [mR 0, mR 4, mR 92, mI 0], [], stI xs) = some (σ', 1)) : PureLaw := by
  intro Ln xs hL hv
  obtain ⟨σ', hs⟩ := h Ln xs hL hv
  exact ⟨lyT Ln, σ', (law_start Ln xs).trans (srun_link _ hs), by show 105 ≤ 600000; omega, by show 3489 ≤ 7302250; omega⟩
