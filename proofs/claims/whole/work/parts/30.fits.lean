/-! who, grids, which -/
def fitL (t : Int → Int) (q : Int) : Nat → Int → Cty → Bool
  | 0, _, _ => true
  | n + 1, k, C => decide (yearC C 9 q = t k) && fitL t q n (k + 1) (yearC C)
theorem x_fitL {Ln : Nat} {t : Int → Int} {q N : Int} (q0 : 0 ≤ q) (N1 : N ≤ 12) {D : Nat} (hD : 5 ≤ D) : ∀ (n : Nat) (z : Int) (σ : mmSt) (C : Cty), KY 15 σ 58 C → q < C 2 0 → (∀ k : Int, 0 ≤ k → k < N → σ 68 (Int.toNat k) = t k) → z + n = N → 0 ≤ z → ∃ σ', srun (lyT Ln) (D, 92, 2, [mR 47, mI q, mI N, mI z], [], σ) = some (σ', b2i (fitL t q n z C)) ∧ frX 58 σ σ' := by
  obtain ⟨d, rfl⟩ := Nat.exists_eq_add_of_le' hD
  intro n
  induction n with
  | zero =>
    intro z σ C k q1 ht e z0
    rw [b_Seer_fits_2, decide_eq_true (by omega)]
    exact ⟨σ, rfl, frX_rfl _ _⟩
  | succ n ih =>
    intro z σ C k q1 ht e z0
    have w := k.2.2.1.1
    obtain ⟨σ1, e1, k1, f1⟩ := x_year (Ln := Ln) k (show 4 ≤ d + 4 by omega)
    have y2 : q < yearC C 2 0 := by rw [year_2]; exact q1
    have ht1 : ∀ k : Int, 0 ≤ k → k < N → σ1 68 (Int.toNat k) = t k := fun k a b => (f1 68 _ (by omega)).trans (ht k a b)
    rw [b_Seer_fits_2, decide_eq_false (show ¬ N ≤ z by omega), cond_false, decide_eq_false (show ¬ 12 ≤ z by omega), cond_false, e1, Option.bind_some, minb_t q0 (by omega), minb_t z0 (by omega), cond_true, cond_true, mw (by omega) (by omega), fitL]
    simp only [show σ1 64 (Int.toNat q) = yearC C 9 q from x9 (KY_X k1).2.1 q q0 y2, ht1 z z0 (by omega)]
    obtain ⟨σ2, e2, f2⟩ := ih (z + 1) σ1 (yearC C) k1 y2 ht1 (by omega) (by omega)
    cases decide (yearC C 9 q = t z)
    · exact ⟨σ1, rfl, f1⟩
    · exact ⟨σ2, e2, frX_trans f1 f2⟩
theorem x_fits {Ln : Nat} {t : Int → Int} {q N : Int} (q0 : 0 ≤ q) (N0 : 0 ≤ N) (N1 : N ≤ 12) {D : Nat} (hD : 5 ≤ D) {σ : mmSt} {C : Cty} (k : KY 15 σ 58 C) (q1 : q < C 2 0) (ht : ∀ k : Int, 0 ≤ k → k < N → σ 68 (Int.toNat k) = t k) : ∃ σ', srun (lyT Ln) (D, 92, 0, [mR 47, mI q, mI N, mJ], [], σ) = some (σ', b2i (fitL t q (Int.toNat N) 0 C)) ∧ frX 58 σ σ' := by
  obtain ⟨d, rfl⟩ := Nat.exists_eq_add_of_le' hD
  rw [b_Seer_fits]
  exact x_fitL q0 N1 (by omega) (Int.toNat N) 0 σ C k q1 ht (by omega) (by omega)
theorem m_soL {Ln : Nat} {t : Int → Int} {q fr N : Int} (q0 : 0 ≤ q) (N1 : N ≤ 12) (fr0 : 0 ≤ fr) (fr1 : fr + N ≤ 320) {D : Nat} (hD : 6 ≤ D) : ∀ (n : Nat) (z : Int) (σ : mmSt) (C : Cty) (fl : Bool), KM σ 98 C → q < C 2 0 → (∀ k : Int, 0 ≤ k → k < N → σ 95 (Int.toNat (fr + k)) = t k) → z + n = N → 0 ≤ z → ∃ σ', srun (lyT Ln) (D, 221, 4, [mR 92, mI q, mI fr, mI N, mI (b2i fl), mI z], [], σ) = some (σ', b2i (fl && fitL t q n z C)) ∧ frM 98 σ σ' := by
  obtain ⟨d, rfl⟩ := Nat.exists_eq_add_of_le' hD
  intro n
  induction n with
  | zero =>
    intro z σ C fl k q1 ht e z0
    rw [b_M_isSo_4, decide_eq_true (by omega), cond_true, dec01, cond_true]
    refine ⟨σ, ?_, frM_rfl _ _⟩
    rw [fitL, Bool.and_true]
  | succ n ih =>
    intro z σ C fl k q1 ht e z0
    obtain ⟨σ1, e1, k1, f1, _⟩ := m_year (Ln := Ln) k (show 5 ≤ d + 5 by omega)
    have y2 : q < yearC C 2 0 := by rw [year_2]; exact q1
    have ht1 : ∀ k : Int, 0 ≤ k → k < N → σ1 95 (Int.toNat (fr + k)) = t k := fun k a b => (f1 95 _ (by omega)).trans (ht k a b)
    obtain ⟨σ2, e2, f2⟩ := ih (z + 1) σ1 (yearC C) false k1 y2 ht1 (by omega) (by omega)
    obtain ⟨σ3, e3, f3⟩ := ih (z + 1) σ1 (yearC C) true k1 y2 ht1 (by omega) (by omega)
    rw [b_M_isSo_4, decide_eq_false (show ¬ N ≤ z by omega), cond_false, e1, Option.bind_some, mw (z := z + 1) (by omega) (by omega), fitL]
    simp only [dec0, m_of1 k1 (show 1 ≤ d + 5 by omega) q0 y2, Option.bind_some, mw (show -2147483648 ≤ fr + z by omega) (show fr + z < 2147483648 by omega), minb_t (show 0 ≤ fr + z by omega) (show fr + z < ((320 : Nat) : Int) by omega), cond_true, ht1 z z0 (show z < N by omega), dne]
    cases fl
    · exact ⟨σ2, e2, frM_trans f1 f2⟩
    · cases decide (yearC C 9 q = t z)
      · exact ⟨σ2, e2, frM_trans f1 f2⟩
      · exact ⟨σ3, e3, frM_trans f1 f3⟩
theorem m_so {Ln : Nat} {t : Int → Int} {q fr N : Int} (q0 : 0 ≤ q) (N0 : 0 ≤ N) (N1 : N ≤ 12) (fr0 : 0 ≤ fr) (fr1 : fr + N ≤ 320) {D : Nat} (hD : 6 ≤ D) {σ : mmSt} {C : Cty} (k : KM σ 98 C) (q1 : q < C 2 0) (ht : ∀ k : Int, 0 ≤ k → k < N → σ 95 (Int.toNat (fr + k)) = t k) : ∃ σ', srun (lyT Ln) (D, 221, 0, [mR 92, mI q, mI fr, mI N, mJ, mJ], [], σ) = some (σ', b2i (fitL t q (Int.toNat N) 0 C)) ∧ frM 98 σ σ' := by
  obtain ⟨d, rfl⟩ := Nat.exists_eq_add_of_le' hD
  rw [b_M_isSo]
  exact m_soL q0 N1 fr0 fr1 (by omega) (Int.toNat N) 0 σ C true k q1 ht (by omega) (by omega)
theorem x_tellL {Ln : Nat} {r i N : Int} (r0 : 0 ≤ r) (r1 : r < 8) (i0 : 0 ≤ i) (iN : i + N ≤ 40) (N1 : N ≤ 12) {D : Nat} (hD : 1 ≤ D) : ∀ (n : Nat) (z : Int) (σ : mmSt), z + n = N → 0 ≤ z → ∃ σ', srun (lyT Ln) (D, 76, 2, [mR 5, mI r, mI i, mI N, mR 68, mI z], [], σ) = some (σ', 0) ∧ ∀ b (j : Nat), σ' b j = if b = 68 ∧ z ≤ (j : Int) ∧ (j : Int) < N then σ 6 (Int.toNat (40 * r + i + j)) else σ b j := by
  obtain ⟨d, rfl⟩ := Nat.exists_eq_add_of_le' hD
  intro n
  induction n with
  | zero =>
    intro z σ e z0
    rw [b_Rows_tell_2, decide_eq_true (by omega)]
    exact ⟨σ, rfl, fun b j => by rw [if_neg (by omega)]⟩
  | succ n ih =>
    intro z σ e z0
    rw [b_Rows_tell_2, decide_eq_false (show ¬ N ≤ z by omega), cond_false, decide_eq_false (show ¬ 12 ≤ z by omega), cond_false, mw (z := r * 40) (by omega) (by omega), mw (z := r * 40 + i) (by omega) (by omega), mw (z := r * 40 + i + z) (by omega) (by omega), minb_t (by omega) (by omega), cond_true, minb_t z0 (by omega), cond_true, mw (by omega) (by omega)]
    obtain ⟨σ', e1, f1⟩ := ih (z + 1) (mup σ 68 (Int.toNat z) (σ 6 (Int.toNat (r * 40 + i + z)))) (by omega) (by omega)
    refine ⟨σ', e1, fun b j => ?_⟩
    rw [f1, mup_ne (b := 6) (by omega), mup_ap]
    by_cases c : b = 68 ∧ z ≤ (j : Int) ∧ (j : Int) < N
    · rw [if_pos c]
      by_cases c2 : (j : Int) = z
      · rw [if_neg (by omega), if_pos (by omega)]; congr 2; omega
      · rw [if_pos (by omega)]
    · rw [if_neg c, if_neg (by omega), if_neg (by omega)]
theorem m_rowFound {Ln : Nat} {σ : mmSt} {r i n : Int} (r0 : 0 ≤ r) (r1 : r < 8) (a : rowR σ (Int.toNat r)) (vi : vI i) (n0 : 1 ≤ n) (n1 : n ≤ 12) {D : Nat} (hD : 2 ≤ D) : srun (lyT Ln) (D, 222, 0, [mR 92, mI r, mI i, mI n], [], σ) = some (mup σ 92 1 (fndC σ r i n), if fndC σ r i n = 0 then 0 else mwrap (-1000010 - fndC σ r i n)) := by
  obtain ⟨d, rfl⟩ := Nat.exists_eq_add_of_le' hD
  unfold vI at vi
  unfold fndC
  rw [b_M_rowFound, minb_t r0 (by omega), cond_true, mwl (by omega) (by omega), mlc_le]
  rcases a with a | ⟨a1, a2, a3, a4, a5, a6, a7⟩
  · rw [if_pos a.1, decide_eq_false (show ¬ 0 ≤ σ 93 (Int.toNat r) by omega), cond_false, m_found (by omega)]; rfl
  · rw [if_neg (by omega), decide_eq_true a1, cond_true]
    by_cases c : i < 0
    · rw [decide_eq_true c, cond_true, if_neg (by omega), m_found (by omega)]; rfl
    · rw [decide_eq_false c, cond_false, cond_true]
      by_cases c2 : i + n ≤ σ 94 (Int.toNat r)
      · rw [decide_eq_true c2, cond_true, if_pos (by omega), if_pos rfl]
      · rw [decide_eq_false c2, cond_false, if_neg (by omega), m_found (by omega)]; rfl
theorem rowR_of {σ σ' : mmSt} {r : Nat} (h : ∀ b j, (6 ≤ b ∧ b ≤ 8) ∨ (93 ≤ b ∧ b ≤ 95) → σ' b j = σ b j) (w : rowR σ r) : rowR σ' r := by
  unfold rowR
  rw [show σ' 6 = σ 6 from funext fun j => h 6 j (by omega), show σ' 7 = σ 7 from funext fun j => h 7 j (by omega), show σ' 8 = σ 8 from funext fun j => h 8 j (by omega), show σ' 93 = σ 93 from funext fun j => h 93 j (by omega), show σ' 94 = σ 94 from funext fun j => h 94 j (by omega), show σ' 95 = σ 95 from funext fun j => h 95 j (by omega)]
  exact w
theorem fnd_of {σ σ' : mmSt} {r i n : Int} (h : ∀ b j, (93 ≤ b ∧ b ≤ 94) → σ' b j = σ b j) : fndC σ' r i n = fndC σ r i n := by
  unfold fndC
  rw [h 93 _ (by omega), h 94 _ (by omega)]
theorem x_kinds {Ln : Nat} {t : Int → Int} {q N : Int} {C : Cty} (w : WF 12 C) (q0 : 0 ≤ q) (q1 : q < C 2 0) (N0 : 0 ≤ N) (N1 : N ≤ 12) {D : Nat} (hD : 6 ≤ D) {σ : mmSt} (h : rep 12 (cX σ 48) C) (ht : ∀ k : Int, 0 ≤ k → k < N → σ 68 (Int.toNat k) = t k) : ∃ σ', srun (lyT Ln) (D, 93, 0, [mR 47, mI q, mI N, mJ, mJ], [], σ) = some (σ', setL (fun v => fitL t q (Int.toNat N) 0 (cup (zt C) 8 q v)) 5 1 0) ∧ frX 58 σ σ' := by
  obtain ⟨d, rfl⟩ := Nat.exists_eq_add_of_le' hD
  have wf := w.1
  rw [b_Seer_kindsThatFit]
  have L : ∀ (n : Nat) (v s : Int) (σ : mmSt), rep 12 (cX σ 48) C → (∀ k : Int, 0 ≤ k → k < N → σ 68 (Int.toNat k) = t k) → v + n = 6 → 1 ≤ v → ∃ σ', srun (lyT Ln) (d + 6, 93, 4, [mR 47, mI q, mI N, mI s, mI v], [], σ) = some (σ', setL (fun v => fitL t q (Int.toNat N) 0 (cup (zt C) 8 q v)) n v s) ∧ frX 58 σ σ' := by
    intro n
    induction n with
    | zero =>
      intro v s σ h ht e v0
      rw [b_Seer_kindsThatFit_4, decide_eq_true (show 5 < v by omega)]
      exact ⟨σ, rfl, frX_rfl _ _⟩
    | succ n ih =>
      intro v s σ h ht e v0
      obtain ⟨σ1, e1, k1, f1⟩ := x_begin (Ln := Ln) h w (show 2 ≤ d + 5 by omega)
      have k1' : KY 15 (mup σ1 63 (Int.toNat q) v) 58 (cup (zt C) 8 q v) := ⟨k1.1, rep_upX (f := 8) (by omega) (by omega) q0 (fun _ => rfl) k1.2.1, WF_upd k1.2.2.1 (.inr (.inr (.inr (.inl ⟨rfl, by omega, by omega⟩)))), k1.2.2.2⟩
      have f1' : frX 58 σ1 (mup σ1 63 (Int.toNat q) v) := frX_up (by omega)
      have ht1 : ∀ k : Int, 0 ≤ k → k < N → (mup σ1 63 (Int.toNat q) v) 68 (Int.toNat k) = t k := fun k a b => by
        rw [show (mup σ1 63 (Int.toNat q) v) 68 (Int.toNat k) = σ1 68 (Int.toNat k) from mup_ne (by omega)]
        exact (f1 68 _ (by omega)).trans (ht k a b)
      obtain ⟨σ2, e2, f2⟩ := x_fits (Ln := Ln) q0 N0 N1 (show 5 ≤ d + 5 by omega) k1' (show q < cup (zt C) 8 q v 2 0 by rw [cup_nf (by omega)]; exact q1) ht1
      have f02 : frX 58 σ σ2 := frX_trans f1 (frX_trans f1' f2)
      have h2 : rep 12 (cX σ2 48) C := rep_X48 (fun b j _ _ => f02 b j (by omega)) h
      have ht2 : ∀ k : Int, 0 ≤ k → k < N → σ2 68 (Int.toNat k) = t k := fun k a b => (f02 68 _ (by omega)).trans (ht k a b)
      rw [b_Seer_kindsThatFit_4, decide_eq_false (show ¬ 5 < v by omega), cond_false, e1, Option.bind_some, mw (z := v + 1) (by omega) (by omega), setL]
      simp only [minb_t q0 (show q < ((5 : Nat) : Int) by omega), cond_true, e2, Option.bind_some, dec0]
      obtain ⟨σ3, e3, f3⟩ := ih (v + 1) s σ2 h2 ht2 (by omega) (by omega)
      obtain ⟨σ4, e4, f4⟩ := ih (v + 1) (mor s (mshl 1 v)) σ2 h2 ht2 (by omega) (by omega)
      cases fitL t q (Int.toNat N) 0 (cup (zt C) 8 q v)
      · exact ⟨σ3, e3, frX_trans f02 f3⟩
      · exact ⟨σ4, e4, frX_trans f02 f4⟩
  exact L 5 1 0 σ h ht (by omega) (by omega)
theorem x_sizes {Ln : Nat} {t : Int → Int} {q N : Int} {C : Cty} (w : WF 12 C) (q0 : 0 ≤ q) (q1 : q < C 2 0) (N0 : 0 ≤ N) (N1 : N ≤ 12) {D : Nat} (hD : 6 ≤ D) {σ : mmSt} (h : rep 12 (cX σ 48) C) (ht : ∀ k : Int, 0 ≤ k → k < N → σ 68 (Int.toNat k) = t k) : ∃ σ', srun (lyT Ln) (D, 94, 0, [mR 47, mI q, mI N, mJ, mJ], [], σ) = some (σ', setL (fun v => fitL t q (Int.toNat N) 0 (cup (zt C) 10 q v)) 9 1 0) ∧ frX 58 σ σ' := by
  obtain ⟨d, rfl⟩ := Nat.exists_eq_add_of_le' hD
  have wf := w.1
  rw [b_Seer_sizesThatFit]
  have L : ∀ (n : Nat) (v s : Int) (σ : mmSt), rep 12 (cX σ 48) C → (∀ k : Int, 0 ≤ k → k < N → σ 68 (Int.toNat k) = t k) → v + n = 10 → 1 ≤ v → ∃ σ', srun (lyT Ln) (d + 6, 94, 4, [mR 47, mI q, mI N, mI s, mI v], [], σ) = some (σ', setL (fun v => fitL t q (Int.toNat N) 0 (cup (zt C) 10 q v)) n v s) ∧ frX 58 σ σ' := by
    intro n
    induction n with
    | zero =>
      intro v s σ h ht e v0
      rw [b_Seer_sizesThatFit_4, decide_eq_true (show 9 < v by omega)]
      exact ⟨σ, rfl, frX_rfl _ _⟩
    | succ n ih =>
      intro v s σ h ht e v0
      obtain ⟨σ1, e1, k1, f1⟩ := x_begin (Ln := Ln) h w (show 2 ≤ d + 5 by omega)
      have k1' : KY 15 (mup σ1 65 (Int.toNat q) v) 58 (cup (zt C) 10 q v) := ⟨k1.1, rep_upX (f := 10) (by omega) (by omega) q0 (fun _ => rfl) k1.2.1, WF_upd k1.2.2.1 (.inr (.inr (.inr (.inr (.inr (.inl ⟨rfl, by omega, by omega⟩)))))), k1.2.2.2⟩
      have f1' : frX 58 σ1 (mup σ1 65 (Int.toNat q) v) := frX_up (by omega)
      have ht1 : ∀ k : Int, 0 ≤ k → k < N → (mup σ1 65 (Int.toNat q) v) 68 (Int.toNat k) = t k := fun k a b => by
        rw [show (mup σ1 65 (Int.toNat q) v) 68 (Int.toNat k) = σ1 68 (Int.toNat k) from mup_ne (by omega)]
        exact (f1 68 _ (by omega)).trans (ht k a b)
      obtain ⟨σ2, e2, f2⟩ := x_fits (Ln := Ln) q0 N0 N1 (show 5 ≤ d + 5 by omega) k1' (show q < cup (zt C) 10 q v 2 0 by rw [cup_nf (by omega)]; exact q1) ht1
      have f02 : frX 58 σ σ2 := frX_trans f1 (frX_trans f1' f2)
      have h2 : rep 12 (cX σ2 48) C := rep_X48 (fun b j _ _ => f02 b j (by omega)) h
      have ht2 : ∀ k : Int, 0 ≤ k → k < N → σ2 68 (Int.toNat k) = t k := fun k a b => (f02 68 _ (by omega)).trans (ht k a b)
      rw [b_Seer_sizesThatFit_4, decide_eq_false (show ¬ 9 < v by omega), cond_false, e1, Option.bind_some, mw (z := v + 1) (by omega) (by omega), setL]
      simp only [minb_t q0 (show q < ((5 : Nat) : Int) by omega), cond_true, e2, Option.bind_some, dec0]
      obtain ⟨σ3, e3, f3⟩ := ih (v + 1) s σ2 h2 ht2 (by omega) (by omega)
      obtain ⟨σ4, e4, f4⟩ := ih (v + 1) (mor s (mshl 1 v)) σ2 h2 ht2 (by omega) (by omega)
      cases fitL t q (Int.toNat N) 0 (cup (zt C) 10 q v)
      · exact ⟨σ3, e3, frX_trans f02 f3⟩
      · exact ⟨σ4, e4, frX_trans f02 f4⟩
  exact L 9 1 0 σ h ht (by omega) (by omega)
theorem x_places {Ln : Nat} {t : Int → Int} {q N : Int} {C : Cty} (w : WF 12 C) (q0 : 0 ≤ q) (q1 : q < C 2 0) (N0 : 0 ≤ N) (N1 : N ≤ 12) {D : Nat} (hD : 6 ≤ D) {σ : mmSt} (h : rep 12 (cX σ 48) C) (ht : ∀ k : Int, 0 ≤ k → k < N → σ 68 (Int.toNat k) = t k) : ∃ σ', srun (lyT Ln) (D, 95, 0, [mR 47, mI q, mI N, mJ, mJ], [], σ) = some (σ', setL (fun v => fitL t q (Int.toNat N) 0 (cup (zt C) 9 q v)) (Int.toNat (C 0 0)) 0 0) ∧ frX 58 σ σ' := by
  obtain ⟨d, rfl⟩ := Nat.exists_eq_add_of_le' hD
  have wf := w.1
  rw [b_Seer_placesThatFit]
  have L : ∀ (n : Nat) (v s : Int) (σ : mmSt), rep 12 (cX σ 48) C → (∀ k : Int, 0 ≤ k → k < N → σ 68 (Int.toNat k) = t k) → v + n = C 0 0 → 0 ≤ v → ∃ σ', srun (lyT Ln) (d + 6, 95, 4, [mR 47, mI q, mI N, mI s, mI v], [], σ) = some (σ', setL (fun v => fitL t q (Int.toNat N) 0 (cup (zt C) 9 q v)) n v s) ∧ frX 58 σ σ' := by
    intro n
    induction n with
    | zero =>
      intro v s σ h ht e v0
      rw [b_Seer_placesThatFit_4, x0 h, decide_eq_true (show C 0 0 ≤ v by omega)]
      exact ⟨σ, rfl, frX_rfl _ _⟩
    | succ n ih =>
      intro v s σ h ht e v0
      obtain ⟨σ1, e1, k1, f1⟩ := x_begin (Ln := Ln) h w (show 2 ≤ d + 5 by omega)
      have k1' : KY 15 (mup σ1 64 (Int.toNat q) v) 58 (cup (zt C) 9 q v) := ⟨k1.1, rep_upX (f := 9) (by omega) (by omega) q0 (fun _ => rfl) k1.2.1, WF_upd k1.2.2.1 (.inr (.inr (.inr (.inr (.inl ⟨rfl, by omega, show v < C 0 0 by omega⟩))))), k1.2.2.2⟩
      have f1' : frX 58 σ1 (mup σ1 64 (Int.toNat q) v) := frX_up (by omega)
      have ht1 : ∀ k : Int, 0 ≤ k → k < N → (mup σ1 64 (Int.toNat q) v) 68 (Int.toNat k) = t k := fun k a b => by
        rw [show (mup σ1 64 (Int.toNat q) v) 68 (Int.toNat k) = σ1 68 (Int.toNat k) from mup_ne (by omega)]
        exact (f1 68 _ (by omega)).trans (ht k a b)
      obtain ⟨σ2, e2, f2⟩ := x_fits (Ln := Ln) q0 N0 N1 (show 5 ≤ d + 5 by omega) k1' (show q < cup (zt C) 9 q v 2 0 by rw [cup_nf (by omega)]; exact q1) ht1
      have f02 : frX 58 σ σ2 := frX_trans f1 (frX_trans f1' f2)
      have h2 : rep 12 (cX σ2 48) C := rep_X48 (fun b j _ _ => f02 b j (by omega)) h
      have ht2 : ∀ k : Int, 0 ≤ k → k < N → σ2 68 (Int.toNat k) = t k := fun k a b => (f02 68 _ (by omega)).trans (ht k a b)
      rw [b_Seer_placesThatFit_4, x0 h, decide_eq_false (show ¬ C 0 0 ≤ v by omega), cond_false, e1, Option.bind_some, mw (z := v + 1) (by omega) (by omega), setL]
      simp only [minb_t q0 (show q < ((5 : Nat) : Int) by omega), cond_true, e2, Option.bind_some, dec0]
      obtain ⟨σ3, e3, f3⟩ := ih (v + 1) s σ2 h2 ht2 (by omega) (by omega)
      obtain ⟨σ4, e4, f4⟩ := ih (v + 1) (mor s (mshl 1 v)) σ2 h2 ht2 (by omega) (by omega)
      cases fitL t q (Int.toNat N) 0 (cup (zt C) 9 q v)
      · exact ⟨σ3, e3, frX_trans f02 f3⟩
      · exact ⟨σ4, e4, frX_trans f02 f4⟩
  exact L (Int.toNat (C 0 0)) 0 0 σ h ht (by omega) (by omega)
theorem x_gridsF {Ln : Nat} {t : Int → Int} {r q N : Int} {C : Cty} (w : WF 12 C) (r0 : 0 ≤ r) (r1 : r < C 1 0) (q0 : 0 ≤ q) (q1 : q < C 2 0) (N0 : 0 ≤ N) (N1 : N ≤ 12) {D : Nat} (hD : 6 ≤ D) {σ : mmSt} (h : rep 12 (cX σ 48) C) (ht : ∀ k : Int, 0 ≤ k → k < N → σ 68 (Int.toNat k) = t k) : ∃ σ', srun (lyT Ln) (D, 96, 0, [mR 47, mI r, mI q, mI N, mJ, mJ], [], σ) = some (σ', setL (fun v => fitL t q (Int.toNat N) 0 (cup (zt C) 7 r v)) 10 0 0) ∧ frX 58 σ σ' := by
  obtain ⟨d, rfl⟩ := Nat.exists_eq_add_of_le' hD
  have wf := w.1
  rw [b_Seer_gridsThatFit]
  have L : ∀ (n : Nat) (v s : Int) (σ : mmSt), rep 12 (cX σ 48) C → (∀ k : Int, 0 ≤ k → k < N → σ 68 (Int.toNat k) = t k) → v + n = 10 → 0 ≤ v → ∃ σ', srun (lyT Ln) (d + 6, 96, 4, [mR 47, mI r, mI q, mI N, mI s, mI v], [], σ) = some (σ', setL (fun v => fitL t q (Int.toNat N) 0 (cup (zt C) 7 r v)) n v s) ∧ frX 58 σ σ' := by
    intro n
    induction n with
    | zero =>
      intro v s σ h ht e v0
      rw [b_Seer_gridsThatFit_4, decide_eq_true (show 9 < v by omega)]
      exact ⟨σ, rfl, frX_rfl _ _⟩
    | succ n ih =>
      intro v s σ h ht e v0
      obtain ⟨σ1, e1, k1, f1⟩ := x_begin (Ln := Ln) h w (show 2 ≤ d + 5 by omega)
      have k1' : KY 15 (mup σ1 62 (Int.toNat r) v) 58 (cup (zt C) 7 r v) := ⟨k1.1, rep_upX (f := 7) (by omega) (by omega) r0 (fun _ => rfl) k1.2.1, WF_upd k1.2.2.1 (.inr (.inr (.inl ⟨rfl, by omega, by omega⟩))), k1.2.2.2⟩
      have f1' : frX 58 σ1 (mup σ1 62 (Int.toNat r) v) := frX_up (by omega)
      have ht1 : ∀ k : Int, 0 ≤ k → k < N → (mup σ1 62 (Int.toNat r) v) 68 (Int.toNat k) = t k := fun k a b => by
        rw [show (mup σ1 62 (Int.toNat r) v) 68 (Int.toNat k) = σ1 68 (Int.toNat k) from mup_ne (by omega)]
        exact (f1 68 _ (by omega)).trans (ht k a b)
      obtain ⟨σ2, e2, f2⟩ := x_fits (Ln := Ln) q0 N0 N1 (show 5 ≤ d + 5 by omega) k1' (show q < cup (zt C) 7 r v 2 0 by rw [cup_nf (by omega)]; exact q1) ht1
      have f02 : frX 58 σ σ2 := frX_trans f1 (frX_trans f1' f2)
      have h2 : rep 12 (cX σ2 48) C := rep_X48 (fun b j _ _ => f02 b j (by omega)) h
      have ht2 : ∀ k : Int, 0 ≤ k → k < N → σ2 68 (Int.toNat k) = t k := fun k a b => (f02 68 _ (by omega)).trans (ht k a b)
      rw [b_Seer_gridsThatFit_4, decide_eq_false (show ¬ 9 < v by omega), cond_false, e1, Option.bind_some, mw (z := v + 1) (by omega) (by omega), setL]
      simp only [minb_t r0 (show r < ((7 : Nat) : Int) by omega), cond_true, e2, Option.bind_some, dec0]
      obtain ⟨σ3, e3, f3⟩ := ih (v + 1) s σ2 h2 ht2 (by omega) (by omega)
      obtain ⟨σ4, e4, f4⟩ := ih (v + 1) (mor s (mshl 1 v)) σ2 h2 ht2 (by omega) (by omega)
      cases fitL t q (Int.toNat N) 0 (cup (zt C) 7 r v)
      · exact ⟨σ3, e3, frX_trans f02 f3⟩
      · exact ⟨σ4, e4, frX_trans f02 f4⟩
  exact L 10 0 0 σ h ht (by omega) (by omega)
theorem x_quarrelsF {Ln : Nat} {t : Int → Int} {N : Int} {C : Cty} (w : WF 12 C)  (N0 : 0 ≤ N) (N1 : N ≤ 12) {D : Nat} (hD : 6 ≤ D) {σ : mmSt} (h : rep 12 (cX σ 48) C) (ht : ∀ k : Int, 0 ≤ k → k < N → σ 68 (Int.toNat k) = t k) : ∃ σ', srun (lyT Ln) (D, 97, 0, [mR 47, mI N, mJ, mJ], [], σ) = some (σ', setL (fun v => fitL t v (Int.toNat N) 0 (zt C)) (Int.toNat (C 2 0)) 0 0) ∧ frX 58 σ σ' := by
  obtain ⟨d, rfl⟩ := Nat.exists_eq_add_of_le' hD
  have wf := w.1
  rw [b_Seer_quarrelsThatFit]
  have L : ∀ (n : Nat) (v s : Int) (σ : mmSt), rep 12 (cX σ 48) C → (∀ k : Int, 0 ≤ k → k < N → σ 68 (Int.toNat k) = t k) → v + n = C 2 0 → 0 ≤ v → ∃ σ', srun (lyT Ln) (d + 6, 97, 4, [mR 47, mI N, mI s, mI v], [], σ) = some (σ', setL (fun v => fitL t v (Int.toNat N) 0 (zt C)) n v s) ∧ frX 58 σ σ' := by
    intro n
    induction n with
    | zero =>
      intro v s σ h ht e v0
      rw [b_Seer_quarrelsThatFit_4, x2 h, decide_eq_true (show C 2 0 ≤ v by omega)]
      exact ⟨σ, rfl, frX_rfl _ _⟩
    | succ n ih =>
      intro v s σ h ht e v0
      obtain ⟨σ1, e1, k1, f1⟩ := x_begin (Ln := Ln) h w (show 2 ≤ d + 5 by omega)
      have k1' : KY 15 σ1 58 (zt C) := k1
      have f1' : frX 58 σ1 σ1 := frX_rfl _ _
      have ht1 : ∀ k : Int, 0 ≤ k → k < N → σ1 68 (Int.toNat k) = t k := fun k a b => by
        rw [show σ1 68 (Int.toNat k) = σ1 68 (Int.toNat k) from rfl]
        exact (f1 68 _ (by omega)).trans (ht k a b)
      obtain ⟨σ2, e2, f2⟩ := x_fits (Ln := Ln) (show 0 ≤ v from v0) N0 N1 (show 5 ≤ d + 5 by omega) k1' (show v < C 2 0 by omega) ht1
      have f02 : frX 58 σ σ2 := frX_trans f1 (frX_trans f1' f2)
      have h2 : rep 12 (cX σ2 48) C := rep_X48 (fun b j _ _ => f02 b j (by omega)) h
      have ht2 : ∀ k : Int, 0 ≤ k → k < N → σ2 68 (Int.toNat k) = t k := fun k a b => (f02 68 _ (by omega)).trans (ht k a b)
      rw [b_Seer_quarrelsThatFit_4, x2 h, decide_eq_false (show ¬ C 2 0 ≤ v by omega), cond_false, e1, Option.bind_some, mw (z := v + 1) (by omega) (by omega), setL]
      simp only [e2, Option.bind_some, dec0]
      obtain ⟨σ3, e3, f3⟩ := ih (v + 1) s σ2 h2 ht2 (by omega) (by omega)
      obtain ⟨σ4, e4, f4⟩ := ih (v + 1) (mor s (mshl 1 v)) σ2 h2 ht2 (by omega) (by omega)
      cases fitL t v (Int.toNat N) 0 (zt C)
      · exact ⟨σ3, e3, frX_trans f02 f3⟩
      · exact ⟨σ4, e4, frX_trans f02 f4⟩
  exact L (Int.toNat (C 2 0)) 0 0 σ h ht (by omega) (by omega)
