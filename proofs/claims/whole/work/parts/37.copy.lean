/-! copy -/
theorem mlc_gt (x y : Int) : decide (0 < mlcmp x y) = decide (y < x) := by
  refine decide_eq_decide.mpr ?_
  unfold mlcmp
  split
  · omega
  · split <;> omega
def fnd2 (σ : mmSt) (a i b j n : Int) : Int := if σ 93 (Int.toNat a) = -1 ∨ σ 93 (Int.toNat b) = -1 then 1 else if σ 93 (Int.toNat a) = σ 93 (Int.toNat b) then (if (0 ≤ i ∧ 0 ≤ n ∧ i + n ≤ σ 94 (Int.toNat a)) ∧ (0 ≤ j ∧ 0 ≤ n ∧ j + n ≤ σ 94 (Int.toNat b)) then 0 else 2) else 5
theorem hold_and (i n l : Int) : (decide (0 ≤ i) && decide (0 ≤ n) && decide (i + n ≤ l)) = decide (0 ≤ i ∧ 0 ≤ n ∧ i + n ≤ l) := by
  by_cases c1 : 0 ≤ i <;> by_cases c2 : 0 ≤ n <;> by_cases c3 : i + n ≤ l <;> simp [c1, c2, c3]
theorem x_find2 {Ln : Nat} {σ : mmSt} (w : Rrows σ) {D : Nat} (hD : 2 ≤ D) {a i b j n : Int} (a0 : 0 ≤ a) (a1 : a < 8) (b0 : 0 ≤ b) (b1 : b < 8) : srun (lyT Ln) (D, 69, 0, [mR 5, mI a, mI i, mI b, mI j, mI n], [], σ) = some (σ, fnd2 σ a i b j n) := by
  obtain ⟨d, rfl⟩ := Nat.exists_eq_add_of_le' hD
  have ra := row_at w a0 a1
  have rb := row_at w b0 b1
  unfold fnd2
  rw [b_Rows_findingOfTwo, x_missing (by omega) a0 a1, Option.bind_some]
  simp only [dec0, dec1, x_missing (show 1 ≤ d + 1 by omega) b0 b1, Option.bind_some, minb_t a0 (show a < ((8 : Nat) : Int) by omega), minb_t b0 (show b < ((8 : Nat) : Int) by omega), cond_true]
  rcases ra with ra | ⟨p1, p2, p3, p4, p5, p6, p7⟩
  · rw [decide_eq_true ra.2, if_pos (.inl ra.1)]; rfl
  · rw [decide_eq_false (show ¬ σ 8 (Int.toNat a) = -1 by omega), cond_false]
    rcases rb with rb | ⟨q1, q2, q3, q4, q5, q6, q7⟩
    · rw [decide_eq_true rb.2, if_pos (.inr rb.1)]; rfl
    · rw [decide_eq_false (show ¬ σ 8 (Int.toNat b) = -1 by omega), if_neg (by omega), Bool.not_false, cond_true]
      simp only [p3, q3]
      by_cases c : σ 93 (Int.toNat a) = σ 93 (Int.toNat b)
      · rw [decide_eq_true c, if_pos c, cond_true, x_holds (by omega) a0 a1 (by omega) (by omega), Option.bind_some]
        simp only [dec0, x_holds (show 1 ≤ d + 1 by omega) b0 b1 (show 0 ≤ σ 8 (Int.toNat b) by omega) (show σ 8 (Int.toNat b) ≤ 40 by omega), Option.bind_some, hold_and, p4, q4]
        by_cases c1 : 0 ≤ i ∧ 0 ≤ n ∧ i + n ≤ σ 94 (Int.toNat a)
        · rw [decide_eq_true c1]
          by_cases c2 : 0 ≤ j ∧ 0 ≤ n ∧ j + n ≤ σ 94 (Int.toNat b)
          · rw [decide_eq_true c2, if_pos ⟨c1, c2⟩]; rfl
          · rw [decide_eq_false c2, if_neg (fun h => c2 h.2)]; rfl
        · rw [decide_eq_false c1, if_neg (fun h => c1 h.1)]; rfl
      · rw [decide_eq_false c, if_neg c]; rfl
theorem m_copyU {Ln : Nat} {a i b j N : Int} (a0 : 0 ≤ a) (a1 : a < 8) (b0 : 0 ≤ b) (b1 : b < 8) (i0 : 0 ≤ i) (iN : i + N ≤ 40) (j0 : 0 ≤ j) (jN : j + N ≤ 40) (hs : 40 * b + j ≤ 40 * a + i ∨ 40 * a + i + N ≤ 40 * b + j) : ∀ (n : Nat) (k : Int) (σ : mmSt) (v : mmV), k + n = N → 0 ≤ k → ∃ σ', srun (lyT Ln) (99, 161, 84, [mR 92, mI a, mI i, mI b, mI j, mI N, mI 1, mI k, v], [], σ) = some (σ', N) ∧ (∀ c l, c ≠ 95 → σ' c l = σ c l) ∧ ∀ c : Nat, σ' 95 c = if 40 * b + j + k ≤ (c : Int) ∧ (c : Int) < 40 * b + j + N then σ 95 (Int.toNat (40 * a + i + (c - (40 * b + j)))) else σ 95 c := by
  intro n
  induction n with
  | zero =>
    intro k σ v e k0
    rw [b_M_copy_84, decide_eq_true (by omega)]
    exact ⟨σ, rfl, fun _ _ _ => rfl, fun c => by rw [if_neg (by omega)]⟩
  | succ n ih =>
    intro k σ v e k0
    rw [b_M_copy_84, decide_eq_false (show ¬ N ≤ k by omega), cond_false, decide_eq_false (show ¬ (1 : Int) = 0 by omega), cond_false]
    simp (discharger := omega) only [mw, minb_t, cond_true]
    obtain ⟨σ', e1, f1, h1⟩ := ih (k + 1) (mup σ 95 (Int.toNat (40 * b + j + k)) (σ 95 (Int.toNat (40 * a + i + k)))) (mI k) (by omega) (by omega)
    refine ⟨σ', e1, fun c l hc => (f1 c l hc).trans (mup_ne (by omega)), fun c => ?_⟩
    rw [h1]
    by_cases c1 : 40 * b + j + k ≤ (c : Int) ∧ (c : Int) < 40 * b + j + N
    · rw [if_pos c1]
      by_cases c2 : (c : Int) = 40 * b + j + k
      · rw [if_neg (by omega), mup_ap, if_pos (by omega), show 40 * a + i + k = 40 * a + i + (c - (40 * b + j)) by omega]
      · rw [if_pos (by omega), mup_ne (by omega)]
    · rw [if_neg c1, if_neg (by omega), mup_ne (by omega)]
theorem m_copyD {Ln : Nat} {a i b j N : Int} (a0 : 0 ≤ a) (a1 : a < 8) (b0 : 0 ≤ b) (b1 : b < 8) (i0 : 0 ≤ i) (iN : i + N ≤ 40) (j0 : 0 ≤ j) (jN : j + N ≤ 40) (hs : 40 * a + i ≤ 40 * b + j ∨ 40 * b + j + N ≤ 40 * a + i) : ∀ (n : Nat) (k : Int) (σ : mmSt) (v : mmV), k + n = N → 0 ≤ k → ∃ σ', srun (lyT Ln) (99, 161, 84, [mR 92, mI a, mI i, mI b, mI j, mI N, mI 0, mI k, v], [], σ) = some (σ', N) ∧ (∀ c l, c ≠ 95 → σ' c l = σ c l) ∧ ∀ c : Nat, σ' 95 c = if 40 * b + j ≤ (c : Int) ∧ (c : Int) < 40 * b + j + (N - k) then σ 95 (Int.toNat (40 * a + i + (c - (40 * b + j)))) else σ 95 c := by
  intro n
  induction n with
  | zero =>
    intro k σ v e k0
    rw [b_M_copy_84, decide_eq_true (by omega)]
    exact ⟨σ, rfl, fun _ _ _ => rfl, fun c => by rw [if_neg (by omega)]⟩
  | succ n ih =>
    intro k σ v e k0
    rw [b_M_copy_84, decide_eq_false (show ¬ N ≤ k by omega), cond_false, decide_eq_true (show (0 : Int) = 0 from rfl), cond_true]
    simp (discharger := omega) only [mw, minb_t, cond_true]
    obtain ⟨σ', e1, f1, h1⟩ := ih (k + 1) (mup σ 95 (Int.toNat (40 * b + j + (N - 1 - k))) (σ 95 (Int.toNat (40 * a + i + (N - 1 - k))))) (mI (N - 1 - k)) (by omega) (by omega)
    refine ⟨σ', e1, fun c l hc => (f1 c l hc).trans (mup_ne (by omega)), fun c => ?_⟩
    rw [h1]
    by_cases c1 : 40 * b + j ≤ (c : Int) ∧ (c : Int) < 40 * b + j + (N - k)
    · rw [if_pos c1]
      by_cases c2 : (c : Int) = 40 * b + j + (N - 1 - k)
      · rw [if_neg (by omega), mup_ap, if_pos (by omega), show 40 * a + i + (N - 1 - k) = 40 * a + i + (c - (40 * b + j)) by omega]
      · rw [if_pos (by omega), mup_ne (by omega)]
    · rw [if_neg c1, if_neg (by omega), mup_ne (by omega)]
def rowL (σ : mmSt) (r : Nat) : Prop := σ 93 r = -1 ∨ 0 ≤ σ 93 r
theorem m_copyS {Ln : Nat} {σ : mmSt} {a i b j n : Int} (ra : rowL σ (Int.toNat a)) (rb : rowL σ (Int.toNat b)) (a0 : 0 ≤ a) (a1 : a < 8) (b0 : 0 ≤ b) (b1 : b < 8) (vi : vI i) (vj : vI j) (vn : vI n) : srun (lyT Ln) (99, 161, 0, [mR 92, mI a, mI i, mI b, mI j, mI n, mJ, mJ, mJ], [], σ) = if fnd2 σ a i b j n = 0 then srun (lyT Ln) (99, 161, 84, [mR 92, mI a, mI i, mI b, mI j, mI n, mI (if i < j then 0 else 1), mI 0, mJ], [], mup (mup σ 92 0 0) 92 1 0) else some (mup (mup (mup σ 92 0 0) 92 1 0) 92 1 (fnd2 σ a i b j n), mwrap (-1000010 - fnd2 σ a i b j n)) := by
  unfold vI at vi vj vn
  rw [b_M_copy, m_isRow (by omega), inB_i a0 a1, Option.bind_some]
  simp (discharger := omega) only [dec0, dec1, m_isRow (show 2 ≤ 98 by omega), inB_i b0 b1, Option.bind_some, Bool.not_true, cond_false, cond_true, minb_t a0 (show a < ((8 : Nat) : Int) by omega), minb_t b0 (show b < ((8 : Nat) : Int) by omega), mup_ne, m_found (show 1 ≤ 98 by omega), mlc_gt, mlc_le, mwl]
  rcases ra with ra | p1
  · rw [show fnd2 σ a i b j n = 1 from if_pos (.inl ra), if_neg (show ¬ (1 : Int) = 0 by omega), decide_eq_true (show σ 93 (Int.toNat a) < 0 by omega)]; rfl
  · rw [decide_eq_false (show ¬ σ 93 (Int.toNat a) < 0 by omega), cond_false]
    rcases rb with rb | q1
    · rw [show fnd2 σ a i b j n = 1 from if_pos (.inr rb), if_neg (show ¬ (1 : Int) = 0 by omega), decide_eq_false (show ¬ 0 ≤ σ 93 (Int.toNat b) by omega)]; rfl
    · have nn : ¬ (σ 93 (Int.toNat a) = -1 ∨ σ 93 (Int.toNat b) = -1) := by omega
      rw [decide_eq_true q1, cond_true]
      by_cases c : σ 93 (Int.toNat a) = σ 93 (Int.toNat b)
      · rw [decide_eq_true c, cond_true]
        by_cases c1 : i < 0
        · rw [show fnd2 σ a i b j n = 2 by unfold fnd2; rw [if_neg nn, if_pos c, if_neg (show ¬ ((0 ≤ i ∧ 0 ≤ n ∧ i + n ≤ σ 94 (Int.toNat a)) ∧ (0 ≤ j ∧ 0 ≤ n ∧ j + n ≤ σ 94 (Int.toNat b))) by omega)], if_neg (show ¬ (2 : Int) = 0 by omega), decide_eq_true c1]; rfl
        rw [decide_eq_false c1, cond_false]
        by_cases c2 : j < 0
        · rw [show fnd2 σ a i b j n = 2 by unfold fnd2; rw [if_neg nn, if_pos c, if_neg (show ¬ ((0 ≤ i ∧ 0 ≤ n ∧ i + n ≤ σ 94 (Int.toNat a)) ∧ (0 ≤ j ∧ 0 ≤ n ∧ j + n ≤ σ 94 (Int.toNat b))) by omega)], if_neg (show ¬ (2 : Int) = 0 by omega), decide_eq_true c2]; rfl
        rw [decide_eq_false c2, cond_false]
        by_cases c3 : n < 0
        · rw [show fnd2 σ a i b j n = 2 by unfold fnd2; rw [if_neg nn, if_pos c, if_neg (show ¬ ((0 ≤ i ∧ 0 ≤ n ∧ i + n ≤ σ 94 (Int.toNat a)) ∧ (0 ≤ j ∧ 0 ≤ n ∧ j + n ≤ σ 94 (Int.toNat b))) by omega)], if_neg (show ¬ (2 : Int) = 0 by omega), decide_eq_true c3]; rfl
        rw [decide_eq_false c3, cond_false]
        by_cases c4 : σ 94 (Int.toNat a) < i + n
        · rw [show fnd2 σ a i b j n = 2 by unfold fnd2; rw [if_neg nn, if_pos c, if_neg (show ¬ ((0 ≤ i ∧ 0 ≤ n ∧ i + n ≤ σ 94 (Int.toNat a)) ∧ (0 ≤ j ∧ 0 ≤ n ∧ j + n ≤ σ 94 (Int.toNat b))) by omega)], if_neg (show ¬ (2 : Int) = 0 by omega), decide_eq_true c4]; rfl
        rw [decide_eq_false c4, cond_false]
        by_cases c5 : j + n ≤ σ 94 (Int.toNat b)
        · rw [show fnd2 σ a i b j n = 0 by unfold fnd2; rw [if_neg nn, if_pos c, if_pos (show ((0 ≤ i ∧ 0 ≤ n ∧ i + n ≤ σ 94 (Int.toNat a)) ∧ (0 ≤ j ∧ 0 ≤ n ∧ j + n ≤ σ 94 (Int.toNat b))) by omega)], if_pos rfl, decide_eq_true c5, cond_true]
          by_cases c6 : i < j
          · rw [decide_eq_true c6, if_pos c6]; rfl
          · rw [decide_eq_false c6, if_neg c6]; rfl
        · rw [show fnd2 σ a i b j n = 2 by unfold fnd2; rw [if_neg nn, if_pos c, if_neg (show ¬ ((0 ≤ i ∧ 0 ≤ n ∧ i + n ≤ σ 94 (Int.toNat a)) ∧ (0 ≤ j ∧ 0 ≤ n ∧ j + n ≤ σ 94 (Int.toNat b))) by omega)], if_neg (show ¬ (2 : Int) = 0 by omega), decide_eq_false c5]; rfl
      · rw [show fnd2 σ a i b j n = 5 by unfold fnd2; rw [if_neg nn, if_neg c], if_neg (show ¬ (5 : Int) = 0 by omega), decide_eq_false c]; rfl
theorem k_108 (Ln : Nat) : ck_108 Rel Ln := fun a i b j n _ vi _ vj vn => cok_r (fun σ hR => by
  have w := hR.2.2.1
  obtain ⟨bk1, bk2, bk3⟩ := bad_ok w
  rw [b_X_copy, x_isRow (by omega)]
  simp only [Option.bind_some, dec0, dec1, x_isRow (show 2 ≤ 98 by omega)]
  cases ha : inB a 8
  · refine ⟨-1000001, σ, mup σ 92 0 0, rfl, ?_, bk1, bk2, bk3⟩
    rw [b_M_copy, m_isRow (by omega), ha]; rfl
  cases hb : inB b 8
  · refine ⟨-1000001, σ, mup σ 92 0 0, rfl, ?_, bk1, bk2, bk3⟩
    rw [b_M_copy, m_isRow (by omega), ha]
    simp only [Option.bind_some, dec0, dec1, m_isRow (show 2 ≤ 98 by omega), hb]; rfl
  have a1 := inB_t ha
  have b1 := inB_t hb
  have ra := row_at w a1.1 a1.2
  have rb := row_at w b1.1 b1.2
  simp only [Bool.not_true, cond_false, cond_true, x_find2 w (show 2 ≤ 98 by omega) a1.1 a1.2 b1.1 b1.2, Option.bind_some]
  have M : ∀ τ, (∀ c l, (93 ≤ c ∧ c ≤ 94) → τ c l = σ c l) → srun (lyT Ln) (99, 161, 0, [mR 92, mI a, mI i, mI b, mI j, mI n, mJ, mJ, mJ], [], τ) = if fnd2 σ a i b j n = 0 then srun (lyT Ln) (99, 161, 84, [mR 92, mI a, mI i, mI b, mI j, mI n, mI (if i < j then 0 else 1), mI 0, mJ], [], mup (mup τ 92 0 0) 92 1 0) else some (mup (mup (mup τ 92 0 0) 92 1 0) 92 1 (fnd2 σ a i b j n), mwrap (-1000010 - fnd2 σ a i b j n)) := by
    intro τ hτ
    have e : fnd2 τ a i b j n = fnd2 σ a i b j n := by
      unfold fnd2
      rw [hτ 93 _ (by omega), hτ 93 _ (by omega), hτ 94 _ (by omega), hτ 94 _ (by omega)]
    have rl : ∀ r, rowR σ r → rowL τ r := fun r h => by
      unfold rowL
      rw [hτ 93 r (by omega)]
      rcases h with h | h
      · exact .inl h.1
      · exact .inr h.1
    rw [m_copyS (rl _ ra) (rl _ rb) a1.1 a1.2 b1.1 b1.2 vi vj vn, e]
  by_cases hf : fnd2 σ a i b j n = 0
  rotate_left
  · refine ⟨mwrap (-1000010 - fnd2 σ a i b j n), mup σ 4 7 (fnd2 σ a i b j n), mup (mup (mup (mup σ 4 7 (fnd2 σ a i b j n)) 92 0 0) 92 1 0) 92 1 (fnd2 σ a i b j n), ?_, ?_, rowq_up (by unfold rowc; omega), rowq_trans (rowq_up (by unfold scr; omega)) (rowq_trans (rowq_up (by unfold rowc; omega)) (rowq_up (by unfold rowc; omega))), Rrows_st (v := fnd2 σ a i b j n) w (fun b j h => by rw [mup_ne (by omega), mup_ne (by omega), mup_ne (by omega), mup_ne (by omega)]) ?_ ?_⟩
    · rw [decide_eq_false hf]
      simp only [cond_false, x_found (show 1 ≤ 98 by omega), Option.bind_some]
    · rw [M _ (fun c l h => mup_ne (by omega)), if_neg hf]
    · rw [mup_ne (by omega), mup_ne (by omega), mup_ne (by omega), mup_eq]
    · rw [mup_eq]
  have facts : (σ 93 (Int.toNat a) = σ 93 (Int.toNat b)) ∧ (0 ≤ i ∧ 0 ≤ n ∧ i + n ≤ σ 94 (Int.toNat a)) ∧ (0 ≤ j ∧ 0 ≤ n ∧ j + n ≤ σ 94 (Int.toNat b)) ∧ σ 93 (Int.toNat a) ≠ -1 ∧ σ 93 (Int.toNat b) ≠ -1 := by
    unfold fnd2 at hf
    by_cases c : σ 93 (Int.toNat a) = -1 ∨ σ 93 (Int.toNat b) = -1
    · rw [if_pos c] at hf; omega
    · rw [if_neg c] at hf
      by_cases c2 : σ 93 (Int.toNat a) = σ 93 (Int.toNat b)
      · rw [if_pos c2] at hf
        by_cases c3 : (0 ≤ i ∧ 0 ≤ n ∧ i + n ≤ σ 94 (Int.toNat a)) ∧ (0 ≤ j ∧ 0 ≤ n ∧ j + n ≤ σ 94 (Int.toNat b))
        · exact ⟨c2, c3.1, c3.2, fun h => c (.inl h), fun h => c (.inr h)⟩
        · rw [if_neg c3] at hf; omega
      · rw [if_neg c2] at hf; omega
  obtain ⟨fl, fi, fj, fa, fb⟩ := facts
  have ra' : 0 ≤ σ 94 (Int.toNat a) ∧ σ 94 (Int.toNat a) ≤ 40 ∧ ∀ j : Nat, (j : Int) < σ 94 (Int.toNat a) → σ 6 (40 * Int.toNat a + j) = σ 95 (40 * Int.toNat a + j) := by
    rcases ra with ra | ra
    · exact absurd ra.1 fa
    · exact ⟨ra.2.2.2.2.1, ra.2.2.2.2.2.1, ra.2.2.2.2.2.2⟩
  have rb' : σ 94 (Int.toNat b) ≤ 40 := by
    rcases rb with rb | rb
    · exact absurd rb.1 fb
    · exact rb.2.2.2.2.2.1
  have X : srun (lyT Ln) (98, 75, 0, [mR 5, mI a, mI i, mI b, mI j, mI n], [], σ) = some (mcpy σ 6 (Int.toNat (40 * a + i)) 6 (Int.toNat (40 * b + j)) (Int.toNat n), 0) := by
    rw [b_Rows_move]
    simp (discharger := omega) only [mw]
    rw [decide_eq_true (show 0 ≤ a * 40 + i by omega), decide_eq_true (show 0 ≤ b * 40 + j by omega), decide_eq_true (show 0 ≤ n by omega), decide_eq_true (show a * 40 + i + n ≤ 320 by omega), decide_eq_true (show b * 40 + j + n ≤ 320 by omega), Int.mul_comm a 40, Int.mul_comm b 40]; rfl
  have L : ∃ σ2, srun (lyT Ln) (99, 161, 84, [mR 92, mI a, mI i, mI b, mI j, mI n, mI (if i < j then 0 else 1), mI 0, mJ], [], mup (mup (mup (mcpy σ 6 (Int.toNat (40 * a + i)) 6 (Int.toNat (40 * b + j)) (Int.toNat n)) 4 7 0) 92 0 0) 92 1 0) = some (σ2, n) ∧ (∀ c l, c ≠ 95 → σ2 c l = (mup (mup (mup (mcpy σ 6 (Int.toNat (40 * a + i)) 6 (Int.toNat (40 * b + j)) (Int.toNat n)) 4 7 0) 92 0 0) 92 1 0) c l) ∧ ∀ c : Nat, σ2 95 c = if 40 * b + j ≤ (c : Int) ∧ (c : Int) < 40 * b + j + n then σ 95 (Int.toNat (40 * a + i + (c - (40 * b + j)))) else σ 95 c := by
    have e95 : ∀ c, (mup (mup (mup (mcpy σ 6 (Int.toNat (40 * a + i)) 6 (Int.toNat (40 * b + j)) (Int.toNat n)) 4 7 0) 92 0 0) 92 1 0) 95 c = σ 95 c := fun c => by rw [mup_ne (by omega), mup_ne (by omega), mup_ne (by omega), mcpy_ne (by omega)]
    by_cases c : i < j
    · rw [if_pos c]
      obtain ⟨σ2, e2, f2, h2⟩ := m_copyD (Ln := Ln) (N := n) a1.1 a1.2 b1.1 b1.2 fi.1 (by omega) fj.1 (by omega) (by omega) (Int.toNat n) 0 _ mJ (by omega) (by omega)
      refine ⟨σ2, e2, f2, fun c => ?_⟩
      rw [h2, e95, e95]
      by_cases c1 : 40 * b + j ≤ (c : Int) ∧ (c : Int) < 40 * b + j + n
      · rw [if_pos c1, if_pos (by omega)]
      · rw [if_neg c1, if_neg (by omega)]
    · rw [if_neg c]
      obtain ⟨σ2, e2, f2, h2⟩ := m_copyU (Ln := Ln) (N := n) a1.1 a1.2 b1.1 b1.2 fi.1 (by omega) fj.1 (by omega) (by omega) (Int.toNat n) 0 _ mJ (by omega) (by omega)
      refine ⟨σ2, e2, f2, fun c => ?_⟩
      rw [h2, e95, e95]
      by_cases c1 : 40 * b + j ≤ (c : Int) ∧ (c : Int) < 40 * b + j + n
      · rw [if_pos c1, if_pos (by omega)]
      · rw [if_neg c1, if_neg (by omega)]
  obtain ⟨σ2, e2, f2, h2⟩ := L
  refine ⟨n, mup (mcpy σ 6 (Int.toNat (40 * a + i)) 6 (Int.toNat (40 * b + j)) (Int.toNat n)) 4 7 0, σ2, ?_, ?_, ?_, ?_, ?_, fun s hs => ?_⟩
  · rw [decide_eq_true hf]
    simp only [cond_true, X, Option.bind_some, x_fine (show 1 ≤ 98 by omega)]
  · rw [M _ (fun c l h => by rw [mup_ne (by omega), mcpy_ne (by omega)]), if_pos hf]
    exact e2
  · intro c l hs hc
    unfold rowc at hc
    rw [mup_ne (by omega), mcpy_ne (by omega)]
  · intro c l hs hc
    unfold rowc at hc; unfold scr at hs
    rw [f2 c l (by omega), mup_ne (by omega), mup_ne (by omega)]
  · rw [f2 4 7 (by omega), f2 92 1 (by omega), mup_eq, mup_ne (by omega), mup_ne (by omega), mup_eq]
  · have e : ∀ c l, (c = 7 ∨ c = 8 ∨ c = 93 ∨ c = 94) → σ2 c l = σ c l := fun c l hc => by
      rw [f2 c l (by omega), mup_ne (by omega), mup_ne (by omega), mup_ne (by omega), mcpy_ne (by omega)]
    have e6 : ∀ l : Nat, σ2 6 l = if 40 * b + j ≤ (l : Int) ∧ (l : Int) < 40 * b + j + n then σ 6 (Int.toNat (40 * a + i + (l - (40 * b + j)))) else σ 6 l := fun l => by
      rw [f2 6 l (by omega), mup_ne (by omega), mup_ne (by omega), mup_ne (by omega)]
      by_cases c1 : 40 * b + j ≤ (l : Int) ∧ (l : Int) < 40 * b + j + n
      · rw [if_pos c1, mcpy_eq (by omega) (by omega)]; congr 1; omega
      · rw [if_neg c1, mcpy_ne (by omega)]
    have := w.2 s hs
    rw [e 93 s (by omega), e 8 s (by omega), e 7 s (by omega), e 94 s (by omega)]
    rcases this with t | ⟨t1, t2, t3, t4, t5, t6, t7⟩
    · exact .inl t
    · refine .inr ⟨t1, t2, t3, t4, t5, t6, fun l hl => ?_⟩
      rw [e6, h2]
      by_cases c1 : 40 * b + j ≤ ((40 * s + l : Nat) : Int) ∧ ((40 * s + l : Nat) : Int) < 40 * b + j + n
      · rw [if_pos c1, if_pos c1]
        have z := ra'.2.2 (Int.toNat (i + (((40 * s + l : Nat) : Int) - (40 * b + j)))) (by omega)
        rw [show Int.toNat (40 * a + i + (((40 * s + l : Nat) : Int) - (40 * b + j))) = 40 * Int.toNat a + Int.toNat (i + (((40 * s + l : Nat) : Int) - (40 * b + j))) by omega]
        exact z
      · rw [if_neg c1, if_neg c1]; exact t7 l hl)
