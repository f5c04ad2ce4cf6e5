/-! rows, tape -/
theorem tab_of {σ σ' : mmSt} (h : ∀ b j, 1 ≤ b → b ≤ 3 → σ' b j = σ b j) (w : ∀ j, σ 1 j = ro_tab 1 j ∧ σ 2 j = ro_tab 2 j ∧ σ 3 j = ro_tab 3 j) : ∀ j, σ' 1 j = ro_tab 1 j ∧ σ' 2 j = ro_tab 2 j ∧ σ' 3 j = ro_tab 3 j := fun j => by
  rw [h 1 j (by omega) (by omega), h 2 j (by omega) (by omega), h 3 j (by omega) (by omega)]; exact w j
theorem tape_of {σ σ' : mmSt} (h : ∀ b j, b = 20 ∨ b = 100 ∨ (b = 9 ∧ (j = 1 ∨ j = 2)) ∨ (b = 92 ∧ (j = 11 ∨ j = 18)) → σ' b j = σ b j) (w : Rtape σ) : Rtape σ' := by
  unfold Rtape
  rw [h 9 1 (by omega), h 92 11 (by omega), h 9 2 (by omega), h 92 18 (by omega), show σ' 20 = σ 20 from funext fun j => h 20 j (by omega), show σ' 100 = σ 100 from funext fun j => h 100 j (by omega)]
  exact w
theorem rows_of {σ σ' : mmSt} (h : ∀ b j, (b = 4 ∧ j = 7) ∨ (b = 92 ∧ j = 1) ∨ (6 ≤ b ∧ b ≤ 8) ∨ (93 ≤ b ∧ b ≤ 95) → σ' b j = σ b j) (w : Rrows σ) : Rrows σ' := by
  unfold Rrows
  rw [h 4 7 (by omega), h 92 1 (by omega), show σ' 6 = σ 6 from funext fun j => h 6 j (by omega), show σ' 7 = σ 7 from funext fun j => h 7 j (by omega), show σ' 8 = σ 8 from funext fun j => h 8 j (by omega), show σ' 93 = σ 93 from funext fun j => h 93 j (by omega), show σ' 94 = σ 94 from funext fun j => h 94 j (by omega), show σ' 95 = σ 95 from funext fun j => h 95 j (by omega)]
  exact w
theorem trace_of {σ σ' : mmSt} (h : ∀ b j, (b = 69 ∧ j = 1) ∨ (b = 92 ∧ j = 26) ∨ b = 70 ∨ b = 104 → σ' b j = σ b j) (w : Rtrace σ) : Rtrace σ' := by
  unfold Rtrace
  rw [h 69 1 (by omega), h 92 26 (by omega), show σ' 70 = σ 70 from funext fun j => h 70 j (by omega), show σ' 104 = σ 104 from funext fun j => h 104 j (by omega)]
  exact w
theorem now_of {σ σ' : mmSt} {C : Cty} (q : ∀ b j, (b = 48 ∧ j < 4) ∨ (49 ≤ b ∧ b ≤ 56) ∨ b = 96 → σ' b j = σ b j) (w : Now σ C) : Now σ' C :=
  ⟨rep_X_of (fun b j h => q b j (by omega)) w.1, rep_M_of (fun j => q 96 j (by omega)) w.2.1, w.2.2⟩
theorem acts_of {σ σ' : mmSt} {C : Cty} (q : ∀ b j, (21 ≤ b ∧ b ≤ 46) ∨ b = 99 ∨ (b = 92 ∧ j = 9) → σ' b j = σ b j) (w : Racts σ C) : Racts σ' C := by
  obtain ⟨w1, w2, w3, w4, w5, w6⟩ := w
  unfold Racts
  rw [q 21 0 (by omega), q 21 2 (by omega), q 92 9 (by omega)]
  refine ⟨w1, w2, w3, w4, w5, fun k hk => ?_⟩
  obtain ⟨D, d1, d2, d3, d4⟩ := w6 k hk
  exact ⟨D, d1, d2, rep_M_of (fun j => q 99 _ (by omega)) d3, repP_of (fun j => q _ _ (by omega)) d4⟩
theorem img_of {σ σ' : mmSt} (q : ∀ b j, (71 ≤ b ∧ b ≤ 91) ∨ b = 102 ∨ b = 103 → σ' b j = σ b j) (w : Rimg σ) : Rimg σ' := by
  intro k hk
  rw [q 102 k (by omega), q (72 + 10 * k) 0 (by omega)]
  rcases w k hk with w | ⟨w1, D, d1, d2, d3⟩
  · exact .inl w
  · exact .inr ⟨w1, D, d1, rep_X_of (fun b j h => q b j (by omega)) d2, rep_M_of (fun j => q 103 _ (by omega)) d3⟩
def cty (b j : Nat) : Prop := (1 ≤ b ∧ b ≤ 3) ∨ (21 ≤ b ∧ b ≤ 47) ∨ (b = 48 ∧ j < 4) ∨ (49 ≤ b ∧ b ≤ 56) ∨ (71 ≤ b ∧ b ≤ 91) ∨ b = 96 ∨ b = 99 ∨ b = 102 ∨ b = 103 ∨ (b = 92 ∧ j = 9)
theorem Rel_of {σ σ' : mmSt} (hR : Rel σ) (t : Rtape σ') (r : Rrows σ') (tr : Rtrace σ') (q : ∀ b j, cty b j → σ' b j = σ b j) : Rel σ' := by
  obtain ⟨w1, w2, w3, ⟨C, w4, w5⟩, w6, w7⟩ := hR
  exact ⟨tab_of (fun b j h1 h2 => q b j (by unfold cty; omega)) w1, t, r, ⟨C, now_of (fun b j h => q b j (by unfold cty; omega)) w4, acts_of (fun b j h => q b j (by unfold cty; omega)) w5⟩, img_of (fun b j h => q b j (by unfold cty; omega)) w6, tr⟩
/-- rows calls: rows and status alone change -/
def rowc (b j : Nat) : Prop := (b = 4 ∧ j = 7) ∨ (b = 92 ∧ j = 1) ∨ (6 ≤ b ∧ b ≤ 8) ∨ (93 ≤ b ∧ b ≤ 95)
def rowq (σ σ' : mmSt) : Prop := ∀ b j, ¬ scr b j → ¬ rowc b j → σ' b j = σ b j
theorem rowq_rfl (σ : mmSt) : rowq σ σ := fun _ _ _ _ => rfl
theorem rowq_trans {a b c : mmSt} (h : rowq a b) (k : rowq b c) : rowq a c := fun x j p q => (k x j p q).trans (h x j p q)
theorem rowq_up {σ : mmSt} {a i : Nat} {v : Int} (h : scr a i ∨ rowc a i) : rowq σ (mup σ a i v) := fun b j p q => if_neg (fun e => by rw [e.1, e.2] at p q; exact h.elim p q)
theorem rowq_q {σ σ' : mmSt} (h : quiet σ σ') : rowq σ σ' := fun b j p _ => h b j p
theorem Rel_rows {σ σ' : mmSt} (hR : Rel σ) (q : rowq σ σ') (r : Rrows σ') : Rel σ' :=
  Rel_of hR (tape_of (fun b j h => q b j (by unfold scr; omega) (by unfold rowc; omega)) hR.2.1) r (trace_of (fun b j h => q b j (by unfold scr; omega) (by unfold rowc; omega)) hR.2.2.2.2.2) (fun b j h => q b j (by unfold cty at h; unfold scr; omega) (by unfold cty at h; unfold rowc; omega))
theorem cok_r {Ln mx mm : Nat} {Lx Lm : List mmV} (h : ∀ σ, Rel σ → ∃ v σ1 σ2, srun (lyT Ln) (99, mx, 0, Lx, [], σ) = some (σ1, v) ∧ srun (lyT Ln) (99, mm, 0, Lm, [], σ1) = some (σ2, v) ∧ rowq σ σ1 ∧ rowq σ1 σ2 ∧ Rrows σ2) : cok Rel Ln mx mm Lx Lm := by
  intro σ hR
  obtain ⟨v, σ1, σ2, e1, e2, q1, q2, r⟩ := h σ hR
  exact ⟨σ1, v, σ2, e1, e2, Rel_rows hR (rowq_trans q1 q2) r, funext fun j => q1 0 j (by unfold scr; omega) (by unfold rowc; omega), funext fun j => rowq_trans q1 q2 0 j (by unfold scr; omega) (by unfold rowc; omega)⟩
theorem x_isRow {Ln : Nat} {σ : mmSt} {D : Nat} (hD : 2 ≤ D) (x : Int) : srun (lyT Ln) (D, 65, 0, [mR 5, mI x], [], σ) = some (σ, b2i (inB x 8)) := by
  obtain ⟨d, rfl⟩ := Nat.exists_eq_add_of_le' hD
  rw [b_Rows_isRow, x_within (by omega), Option.bind_some, ← bt_in x 8]
  simp only [dec01, cond_true]
  all_goals rfl
theorem m_isRow {Ln : Nat} {σ : mmSt} {D : Nat} (hD : 2 ≤ D) (x : Int) : srun (lyT Ln) (D, 158, 0, [mI x], [], σ) = some (σ, b2i (inB x 8)) := by
  obtain ⟨d, rfl⟩ := Nat.exists_eq_add_of_le' hD
  rw [b_M_isRow, m_in (by omega), Option.bind_some, ← bt_in x 8]
  simp only [dec01, cond_true]
  all_goals rfl
theorem x_found {Ln : Nat} {σ : mmSt} {D : Nat} (hD : 1 ≤ D) (x : Int) : srun (lyT Ln) (D, 148, 0, [mR 4, mI x], [], σ) = some (mup σ 4 7 x, mwrap (-1000010 - x)) := by
  obtain ⟨d, rfl⟩ := Nat.exists_eq_add_of_le' hD
  exact b_X_found Ln d σ x
theorem x_fine {Ln : Nat} {σ : mmSt} {D : Nat} (hD : 1 ≤ D) (x : Int) : srun (lyT Ln) (D, 149, 0, [mR 4, mI x], [], σ) = some (mup σ 4 7 0, x) := by
  obtain ⟨d, rfl⟩ := Nat.exists_eq_add_of_le' hD
  exact b_X_fine Ln d σ x
theorem m_found {Ln : Nat} {σ : mmSt} {D : Nat} (hD : 1 ≤ D) (x : Int) : srun (lyT Ln) (D, 157, 0, [mR 92, mI x], [], σ) = some (mup σ 92 1 x, mwrap (-1000010 - x)) := by
  obtain ⟨d, rfl⟩ := Nat.exists_eq_add_of_le' hD
  exact b_M_finding Ln d σ x
def rowR (σ : mmSt) (r : Nat) : Prop := (σ 93 r = -1 ∧ σ 8 r = -1) ∨ (0 ≤ σ 93 r ∧ σ 93 r ≤ 2 ∧ σ 7 r = σ 93 r ∧ σ 8 r = σ 94 r ∧ 0 ≤ σ 94 r ∧ σ 94 r ≤ 40 ∧ ∀ j : Nat, (j : Int) < σ 94 r → σ 6 (40 * r + j) = σ 95 (40 * r + j))
/-- status alone -/
theorem Rrows_st {σ σ' : mmSt} {v : Int} (w : Rrows σ) (h : ∀ b j, (6 ≤ b ∧ b ≤ 8) ∨ (93 ≤ b ∧ b ≤ 95) → σ' b j = σ b j) (e1 : σ' 4 7 = v) (e2 : σ' 92 1 = v) : Rrows σ' := by
  unfold Rrows
  rw [e1, e2, show σ' 6 = σ 6 from funext fun j => h 6 j (by omega), show σ' 7 = σ 7 from funext fun j => h 7 j (by omega), show σ' 8 = σ 8 from funext fun j => h 8 j (by omega), show σ' 93 = σ 93 from funext fun j => h 93 j (by omega), show σ' 94 = σ 94 from funext fun j => h 94 j (by omega), show σ' 95 = σ 95 from funext fun j => h 95 j (by omega)]
  exact ⟨rfl, w.2⟩
theorem x_makeL {Ln : Nat} {D : Nat} (hD : 1 ≤ D) {r l N : Int} (r0 : 0 ≤ r) (r1 : r < 8) (hN : N ≤ 40) : ∀ (n : Nat) (z : Int) (σ : mmSt), z + n = N → 0 ≤ z → ∃ σ', srun (lyT Ln) (D, 71, 12, [mR 5, mI r, mI l, mI N, mI z], [], σ) = some (σ', 0) ∧ ∀ b (j : Nat), σ' b j = if b = 6 ∧ 40 * r + z ≤ (j : Int) ∧ (j : Int) < 40 * r + N then 0 else σ b j := by
  obtain ⟨d, rfl⟩ := Nat.exists_eq_add_of_le' hD
  intro n
  induction n with
  | zero =>
    intro z σ e h0
    rw [b_Rows_make_12, decide_eq_true (by omega)]
    exact ⟨σ, rfl, fun b j => by rw [if_neg (by omega)]⟩
  | succ n ih =>
    intro z σ e h0
    rw [b_Rows_make_12, decide_eq_false (by omega), cond_false, mw (z := r * 40) (by omega) (by omega), mw (z := r * 40 + z) (by omega) (by omega), minb_t (by omega) (by omega), cond_true, mw (by omega) (by omega)]
    obtain ⟨σ', e1, f1⟩ := ih (z + 1) (mup σ 6 (Int.toNat (r * 40 + z)) 0) (by omega) (by omega)
    refine ⟨σ', e1, fun b j => ?_⟩
    rw [f1, mup_ap]
    by_cases c : b = 6 ∧ 40 * r + z ≤ (j : Int) ∧ (j : Int) < 40 * r + N
    · rw [if_pos c]
      by_cases c2 : (j : Int) = 40 * r + z
      · rw [if_neg (by omega), if_pos (by omega)]
      · rw [if_pos (by omega)]
    · rw [if_neg c, if_neg (by omega), if_neg (by omega)]
theorem m_makeL {Ln : Nat} {D : Nat} (hD : 1 ≤ D) {r l N : Int} (r0 : 0 ≤ r) (r1 : r < 8) : ∀ (n : Nat) (z : Int) (σ : mmSt), z + n = 40 → 0 ≤ z → ∃ σ', srun (lyT Ln) (D, 159, 38, [mR 92, mI r, mI l, mI N, mI z], [], σ) = some (σ', N) ∧ ∀ b (j : Nat), σ' b j = if b = 95 ∧ 40 * r + z ≤ (j : Int) ∧ (j : Int) < 40 * r + 40 then 0 else σ b j := by
  obtain ⟨d, rfl⟩ := Nat.exists_eq_add_of_le' hD
  intro n
  induction n with
  | zero =>
    intro z σ e h0
    rw [b_M_row_38, decide_eq_true (show 40 ≤ z by omega)]
    exact ⟨σ, rfl, fun b j => by rw [if_neg (by omega)]⟩
  | succ n ih =>
    intro z σ e h0
    rw [b_M_row_38, decide_eq_false (show ¬ 40 ≤ z by omega), cond_false, mw (z := 40 * r) (by omega) (by omega), mw (z := 40 * r + z) (by omega) (by omega), minb_t (by omega) (by omega), cond_true, mw (by omega) (by omega)]
    obtain ⟨σ', e1, f1⟩ := ih (z + 1) (mup σ 95 (Int.toNat (40 * r + z)) 0) (by omega) (by omega)
    refine ⟨σ', e1, fun b j => ?_⟩
    rw [f1, mup_ap]
    by_cases c : b = 95 ∧ 40 * r + z ≤ (j : Int) ∧ (j : Int) < 40 * r + 40
    · rw [if_pos c]
      by_cases c2 : (j : Int) = 40 * r + z
      · rw [if_neg (by omega), if_pos (by omega)]
      · rw [if_pos (by omega)]
    · rw [if_neg c, if_neg (by omega), if_neg (by omega)]
theorem k_106 (Ln : Nat) : ck_106 Rel Ln := fun r l n _ _ _ => cok_r (fun σ hR => by
  have w := hR.2.2.1
  rw [b_X_row, x_isRow (by omega)]
  simp only [Option.bind_some, dec0, x_within (show 1 ≤ 98 by omega)]
  cases hr : inB r 8
  · refine ⟨_, σ, mup σ 92 0 0, rfl, ?_, rowq_rfl _, rowq_q q0, rows_of (fun b j h => mup_ne (by omega)) w⟩
    rw [b_M_row, m_isRow (by omega), hr]; rfl
  have r1 := inB_t hr
  cases hl : btB 0 l 2
  · refine ⟨_, σ, mup σ 92 0 0, rfl, ?_, rowq_rfl _, rowq_q q0, rows_of (fun b j h => mup_ne (by omega)) w⟩
    rw [b_M_row, m_isRow (by omega), hr]
    simp only [Option.bind_some, dec0, m_in (show 1 ≤ 98 by omega), hl]; rfl
  have l1 := btB_t hl
  by_cases hn : n ≤ 40
  · by_cases h0 : 0 ≤ n
    · obtain ⟨σ1, e1, f1⟩ := x_makeL (Ln := Ln) (l := l) (show 1 ≤ 98 by omega) r1.1 r1.2 hn (Int.toNat n) 0 (mup (mup σ 7 (Int.toNat r) l) 8 (Int.toNat r) n) (by omega) (by omega)
      obtain ⟨σ2, e2, f2⟩ := m_makeL (Ln := Ln) (l := l) (N := n) (show 1 ≤ 99 by omega) r1.1 r1.2 40 0 (mup (mup (mup (mup (mup σ1 4 7 0) 92 0 0) 92 1 0) 93 (Int.toNat r) l) 94 (Int.toNat r) n) (by omega) (by omega)
      refine ⟨n, mup σ1 4 7 0, σ2, ?_, ?_, ?_, ?_, ?_⟩
      · rw [decide_eq_true hn, decide_eq_true h0, b_Rows_make, minb_t r1.1 (by omega)]
        simp only [Bool.not_true, cond_false, cond_true, e1, Option.bind_some, x_fine (show 1 ≤ 98 by omega)]
      · rw [b_M_row, m_isRow (by omega), hr]
        simp only [Option.bind_some, dec0, m_in (show 1 ≤ 98 by omega), hl, decide_eq_true hn, decide_eq_true h0, minb_t r1.1 (show r < ((8 : Nat) : Int) by omega), Bool.not_true, cond_false, cond_true]
        exact e2
      · intro b j hs hc
        unfold rowc at hc
        rw [mup_ne (by omega), f1, if_neg (by omega), mup_ne (by omega), mup_ne (by omega)]
      · intro b j hs hc
        unfold rowc at hc; unfold scr at hs
        rw [f2, if_neg (by omega), mup_ne (by omega), mup_ne (by omega), mup_ne (by omega), mup_ne (by omega)]
      · have g : ∀ b j, σ2 b j = if b = 95 ∧ 40 * r + 0 ≤ (j : Int) ∧ (j : Int) < 40 * r + 40 then 0 else if b = 94 ∧ j = Int.toNat r then n else if b = 93 ∧ j = Int.toNat r then l else if b = 92 ∧ j = 1 then 0 else if b = 92 ∧ j = 0 then 0 else if b = 4 ∧ j = 7 then 0 else if b = 6 ∧ 40 * r + 0 ≤ (j : Int) ∧ (j : Int) < 40 * r + n then 0 else if b = 8 ∧ j = Int.toNat r then n else if b = 7 ∧ j = Int.toNat r then l else σ b j := fun b j => by
          rw [f2, mup_ap, mup_ap, mup_ap, mup_ap, mup_ap, f1, mup_ap, mup_ap]
        have k1 : ∀ (b j : Nat), (b = 6 ∨ b = 95) → ¬ (40 * r ≤ (j : Int) ∧ (j : Int) < 40 * r + 40) → σ2 b j = σ b j := fun b j hb hj => by
          rw [g]; repeat rw [if_neg (by omega)]
        have k2 : ∀ (b j : Nat), (b = 7 ∨ b = 8 ∨ b = 93 ∨ b = 94) → ¬ (j : Int) = r → σ2 b j = σ b j := fun b j hb hj => by
          rw [g]; repeat rw [if_neg (by omega)]
        refine ⟨?_, fun s hs => ?_⟩
        · rw [show σ2 4 7 = 0 from by rw [g]; simp, show σ2 92 1 = 0 from by rw [g]; simp]
        · by_cases cs : (s : Int) = r
          · right
            rw [show σ2 93 s = l from by rw [g, if_neg (by omega), if_neg (by omega), if_pos (by omega)], show σ2 7 s = l from by rw [g]; repeat (first | rw [if_neg (by omega)] | rw [if_pos (by omega)]), show σ2 8 s = n from by rw [g]; repeat (first | rw [if_neg (by omega)] | rw [if_pos (by omega)]), show σ2 94 s = n from by rw [g]; repeat (first | rw [if_neg (by omega)] | rw [if_pos (by omega)])]
            refine ⟨l1.1, l1.2, rfl, rfl, h0, hn, fun j hj => ?_⟩
            rw [g, g]
            rw [if_neg (by omega), if_neg (by omega), if_neg (by omega), if_neg (by omega), if_neg (by omega), if_neg (by omega), if_pos (by omega), if_pos (by omega)]
          · have := w.2 s hs
            rw [k2 93 s (by omega) cs, k2 8 s (by omega) cs, k2 7 s (by omega) cs, k2 94 s (by omega) cs]
            rcases this with a | ⟨a1, a2, a3, a4, a5, a6, a7⟩
            · exact .inl a
            · refine .inr ⟨a1, a2, a3, a4, a5, a6, fun j hj => ?_⟩
              rw [k1 6 _ (by omega) (by omega), k1 95 _ (by omega) (by omega)]
              exact a7 j hj
    · refine ⟨mwrap (-1000010 - 4), mup σ 4 7 4, mup (mup (mup (mup σ 4 7 4) 92 0 0) 92 1 0) 92 1 4, ?_, ?_, rowq_up (by unfold rowc; omega), rowq_trans (rowq_up (by unfold scr; omega)) (rowq_trans (rowq_up (by unfold rowc; omega)) (rowq_up (by unfold rowc; omega))), Rrows_st (v := 4) w (fun b j h => by rw [mup_ne (by omega), mup_ne (by omega), mup_ne (by omega), mup_ne (by omega)]) ?_ ?_⟩
      · rw [decide_eq_true hn, decide_eq_false h0]
        simp only [Bool.not_true, cond_false, cond_true, Option.bind_some, x_found (show 1 ≤ 98 by omega)]
        all_goals rfl
      · rw [b_M_row, m_isRow (by omega), hr]
        simp only [Option.bind_some, dec0, m_in (show 1 ≤ 98 by omega), hl, decide_eq_true hn, decide_eq_false h0, Bool.not_true, cond_false, cond_true, m_found (show 1 ≤ 98 by omega)]
        all_goals rfl
      · rw [mup_ne (by omega), mup_ne (by omega), mup_ne (by omega), mup_eq]
      · rw [mup_eq]
  · refine ⟨-1000001, σ, mup σ 92 0 0, ?_, ?_, rowq_rfl _, rowq_q q0, rows_of (fun b j h => mup_ne (by omega)) w⟩
    · rw [decide_eq_false hn]; rfl
    · rw [b_M_row, m_isRow (by omega), hr]
      simp only [Option.bind_some, dec0, m_in (show 1 ≤ 98 by omega), hl, decide_eq_false hn]; rfl)
theorem x_missing {Ln : Nat} {σ : mmSt} {D : Nat} (hD : 1 ≤ D) {r : Int} (r0 : 0 ≤ r) (r1 : r < 8) : srun (lyT Ln) (D, 66, 0, [mR 5, mI r], [], σ) = some (σ, b2i (decide (σ 8 (Int.toNat r) = -1))) := by
  obtain ⟨d, rfl⟩ := Nat.exists_eq_add_of_le' hD
  rw [b_Rows_isMissing, minb_t r0 (by omega), cond_true]
  by_cases c : σ 8 (Int.toNat r) = -1 <;> simp [c, b2i]
theorem row_at {σ : mmSt} (w : Rrows σ) {r : Int} (r0 : 0 ≤ r) (r1 : r < 8) : rowR σ (Int.toNat r) := w.2 _ (by omega)
theorem k_109 (Ln : Nat) : ck_109 Rel Ln := fun r _ => cok_r (fun σ hR => by
  have w := hR.2.2.1
  rw [b_X_drop, x_isRow (by omega)]
  simp only [Option.bind_some, dec1]
  cases hr : inB r 8
  · refine ⟨_, σ, mup σ 92 0 0, rfl, ?_, rowq_rfl _, rowq_q q0, rows_of (fun b j h => mup_ne (by omega)) w⟩
    rw [b_M_drop, m_isRow (by omega), hr]; rfl
  have r1 := inB_t hr
  have a := row_at w r1.1 r1.2
  rw [x_missing (by omega) r1.1 r1.2]
  simp only [Option.bind_some, dec0]
  by_cases c : σ 93 (Int.toNat r) = -1
  · have c8 : σ 8 (Int.toNat r) = -1 := by
      rcases a with a | a
      · exact a.2
      · omega
    rw [decide_eq_true c8]
    refine ⟨mwrap (-1000010 - 1), mup σ 4 7 1, mup (mup (mup (mup σ 4 7 1) 92 0 0) 92 1 0) 92 1 1, ?_, ?_, rowq_up (by unfold rowc; omega), rowq_trans (rowq_up (by unfold scr; omega)) (rowq_trans (rowq_up (by unfold rowc; omega)) (rowq_up (by unfold rowc; omega))), Rrows_st (v := 1) w (fun b j h => by rw [mup_ne (by omega), mup_ne (by omega), mup_ne (by omega), mup_ne (by omega)]) ?_ ?_⟩
    · simp only [Bool.not_true, cond_false, cond_true, Option.bind_some, x_found (show 1 ≤ 98 by omega)]
      all_goals rfl
    · rw [b_M_drop, m_isRow (by omega), hr]
      simp (discharger := omega) only [Option.bind_some, dec1, cond_true, minb_t, mup_ne, c, m_found (show 1 ≤ 98 by omega)]
      all_goals rfl
    · rw [mup_ne (by omega), mup_ne (by omega), mup_ne (by omega), mup_eq]
    · rw [mup_eq]
  · have c8 : ¬ σ 8 (Int.toNat r) = -1 := by
      rcases a with a | a
      · omega
      · omega
    have a : 0 ≤ σ 93 (Int.toNat r) ∧ σ 8 (Int.toNat r) = σ 94 (Int.toNat r) := by
      rcases a with a | a
      · omega
      · exact ⟨a.1, a.2.2.2.1⟩
    rw [decide_eq_false c8]
    refine ⟨σ 94 (Int.toNat r), mup (mup σ 8 (Int.toNat r) (-1)) 4 7 0, mup (mup (mup (mup (mup σ 8 (Int.toNat r) (-1)) 4 7 0) 92 0 0) 92 1 0) 93 (Int.toNat r) (-1), ?_, ?_, rowq_trans (rowq_up (by unfold rowc; omega)) (rowq_up (by unfold rowc; omega)), rowq_trans (rowq_up (by unfold scr; omega)) (rowq_trans (rowq_up (by unfold rowc; omega)) (rowq_up (by unfold rowc; omega))), ?_, fun s hs => ?_⟩
    · rw [b_Rows_remove, minb_t r1.1 (by omega)]
      simp only [Bool.not_false, cond_true, Option.bind_some, x_fine (show 1 ≤ 98 by omega), a.2]
    · rw [b_M_drop, m_isRow (by omega), hr]
      simp (discharger := omega) only [Option.bind_some, dec1, cond_true, minb_t, mup_ne]
      rw [decide_eq_true a.1, cond_true]
    · rw [mup_ne (by omega), mup_ne (by omega), mup_ne (by omega), mup_eq, mup_ne (by omega), mup_eq]
    · by_cases cs : (s : Int) = r
      · left
        have : s = Int.toNat r := by omega
        subst this
        rw [mup_eq, mup_ne (by omega), mup_ne (by omega), mup_ne (by omega), mup_ne (by omega), mup_eq]
        exact ⟨rfl, rfl⟩
      · have e : ∀ b j, (6 ≤ b ∧ b ≤ 8 ∨ 93 ≤ b ∧ b ≤ 95) → (b = 6 ∨ b = 95 ∨ j ≠ Int.toNat r) → mup (mup (mup (mup (mup σ 8 (Int.toNat r) (-1)) 4 7 0) 92 0 0) 92 1 0) 93 (Int.toNat r) (-1) b j = σ b j := fun b j h1 h2 => by
          rw [mup_ne (by omega), mup_ne (by omega), mup_ne (by omega), mup_ne (by omega), mup_ne (by omega)]
        have := w.2 s hs
        rw [e 93 s (by omega) (by omega), e 8 s (by omega) (by omega), e 7 s (by omega) (by omega), e 94 s (by omega) (by omega)]
        rcases this with a | ⟨a1, a2, a3, a4, a5, a6, a7⟩
        · exact .inl a
        · refine .inr ⟨a1, a2, a3, a4, a5, a6, fun j hj => ?_⟩
          rw [e 6 _ (by omega) (by omega), e 95 _ (by omega) (by omega)]
          exact a7 j hj)
theorem x_holds {Ln : Nat} {σ : mmSt} {D : Nat} (hD : 1 ≤ D) {r i n : Int} (r0 : 0 ≤ r) (r1 : r < 8) (l0 : 0 ≤ σ 8 (Int.toNat r)) (l1 : σ 8 (Int.toNat r) ≤ 40) : srun (lyT Ln) (D, 70, 0, [mR 5, mI r, mI i, mI n], [], σ) = some (σ, b2i (decide (0 ≤ i) && decide (0 ≤ n) && decide (i + n ≤ σ 8 (Int.toNat r)))) := by
  obtain ⟨d, rfl⟩ := Nat.exists_eq_add_of_le' hD
  rw [b_Rows_holds, minb_t r0 (by omega), cond_true, cond_true]
  by_cases c1 : i < 0
  · rw [decide_eq_true c1, decide_eq_false (show ¬ 0 ≤ i by omega)]; rfl
  · rw [decide_eq_false c1, decide_eq_true (show 0 ≤ i by omega)]
    by_cases c2 : n < 0
    · rw [decide_eq_true c2, decide_eq_false (show ¬ 0 ≤ n by omega)]; rfl
    · rw [decide_eq_false c2, decide_eq_true (show 0 ≤ n by omega)]
      by_cases c3 : σ 8 (Int.toNat r) < n
      · rw [decide_eq_true c3, decide_eq_false (show ¬ i + n ≤ σ 8 (Int.toNat r) by omega)]; rfl
      · rw [decide_eq_false c3, mw (by omega) (by omega)]
        by_cases c4 : σ 8 (Int.toNat r) - n < i
        · rw [decide_eq_true c4, decide_eq_false (show ¬ i + n ≤ σ 8 (Int.toNat r) by omega)]; rfl
        · rw [decide_eq_false c4, decide_eq_true (show i + n ≤ σ 8 (Int.toNat r) by omega)]; rfl
/-- what a place in a row comes to -/
def fndC (σ : mmSt) (r i n : Int) : Int := if σ 93 (Int.toNat r) = -1 then 1 else if 0 ≤ i ∧ 0 ≤ n ∧ i + n ≤ σ 94 (Int.toNat r) then 0 else 2
theorem x_finding {Ln : Nat} {σ : mmSt} (w : Rrows σ) {D : Nat} (hD : 2 ≤ D) {r i n : Int} (r0 : 0 ≤ r) (r1 : r < 8) : srun (lyT Ln) (D, 68, 0, [mR 5, mI r, mI i, mI n], [], σ) = some (σ, fndC σ r i n) := by
  obtain ⟨d, rfl⟩ := Nat.exists_eq_add_of_le' hD
  have a := row_at w r0 r1
  unfold fndC
  rw [b_Rows_findingOf, x_missing (by omega) r0 r1, Option.bind_some]
  simp only [dec0]
  rcases a with a | ⟨a1, a2, a3, a4, a5, a6, a7⟩
  · rw [decide_eq_true a.2, if_pos a.1]; rfl
  · rw [decide_eq_false (by omega), if_neg (by omega), x_holds (by omega) r0 r1 (by omega) (by omega)]
    simp only [Option.bind_some, dec0, Bool.not_false, cond_true, a4]
    by_cases c : 0 ≤ i ∧ 0 ≤ n ∧ i + n ≤ σ 94 (Int.toNat r)
    · rw [if_pos c, decide_eq_true c.1, decide_eq_true c.2.1, decide_eq_true c.2.2]; rfl
    · rw [if_neg c]
      have : (decide (0 ≤ i) && decide (0 ≤ n) && decide (i + n ≤ σ 94 (Int.toNat r))) = false := by
        by_cases u : 0 ≤ i <;> by_cases v : 0 ≤ n <;> by_cases x : i + n ≤ σ 94 (Int.toNat r) <;> simp [u, v, x] <;> omega
      rw [this]; rfl
def cutC (l v : Int) : Int := if l = 0 then mi2b v else if l = 1 then mi2s v else v
theorem x_put {Ln : Nat} {σ : mmSt} {D : Nat} (hD : 2 ≤ D) {r i v : Int} (r0 : 0 ≤ r) (r1 : r < 8) (i0 : 0 ≤ i) (i1 : i < 40) : srun (lyT Ln) (D, 73, 0, [mR 5, mI r, mI i, mI v, mJ], [], σ) = some (mup σ 6 (Int.toNat (40 * r + i)) (cutC (σ 7 (Int.toNat r)) v), cutC (σ 7 (Int.toNat r)) v) := by
  obtain ⟨d, rfl⟩ := Nat.exists_eq_add_of_le' hD
  have e : ∀ l : Int, srun (lyT Ln) (d + 1, 74, 0, [mI l, mI v], [], σ) = some (σ, cutC l v) := fun l => by
    rw [b_Rows_cutToLane]
    unfold cutC
    by_cases c : l = 0
    · rw [decide_eq_true c, if_pos c]; rfl
    · rw [decide_eq_false c, if_neg c]
      by_cases c : l = 1
      · rw [decide_eq_true c, if_pos c]; rfl
      · rw [decide_eq_false c, if_neg c]; rfl
  rw [b_Rows_put, minb_t r0 (by omega), cond_true, e, Option.bind_some, mw (z := r * 40) (by omega) (by omega), mw (by omega) (by omega), minb_t (by omega) (by omega), cond_true, Int.mul_comm r 40]
theorem k_107 (Ln : Nat) : ck_107 Rel Ln := fun r i v _ _ _ => cok_r (fun σ hR => by
  have w := hR.2.2.1
  rw [b_X_set, x_isRow (by omega)]
  simp only [Option.bind_some, dec1]
  cases hr : inB r 8
  · refine ⟨_, σ, mup σ 92 0 0, rfl, ?_, rowq_rfl _, rowq_q q0, rows_of (fun b j h => mup_ne (by omega)) w⟩
    rw [b_M_set, m_isRow (by omega), hr]; rfl
  have r1 := inB_t hr
  have a := row_at w r1.1 r1.2
  rw [x_finding w (by omega) r1.1 r1.2]
  simp only [Option.bind_some, cond_true]
  by_cases c : σ 93 (Int.toNat r) = -1
  · have hf : fndC σ r i 1 = 1 := if_pos c
    rw [hf]
    refine ⟨mwrap (-1000010 - 1), mup σ 4 7 1, mup (mup (mup (mup σ 4 7 1) 92 0 0) 92 1 0) 92 1 1, ?_, ?_, rowq_up (by unfold rowc; omega), rowq_trans (rowq_up (by unfold scr; omega)) (rowq_trans (rowq_up (by unfold rowc; omega)) (rowq_up (by unfold rowc; omega))), Rrows_st (v := 1) w (fun b j h => by rw [mup_ne (by omega), mup_ne (by omega), mup_ne (by omega), mup_ne (by omega)]) ?_ ?_⟩
    · rw [x_found (show 1 ≤ 98 by omega)]
      all_goals rfl
    · rw [b_M_set, m_isRow (by omega), hr]
      simp (discharger := omega) only [Option.bind_some, dec1, cond_true, minb_t, mup_ne, c, m_found (show 1 ≤ 98 by omega)]
      all_goals rfl
    · rw [mup_ne (by omega), mup_ne (by omega), mup_ne (by omega), mup_eq]
    · rw [mup_eq]
  · rcases a with a | ⟨a1, a2, a3, a4, a5, a6, a7⟩
    · exact absurd a.1 c
    have mb : ∀ τ : mmSt, (τ = mup (mup (mup σ 4 7 0) 92 0 0) 92 1 0 ∨ True) → True := fun _ _ => trivial
    by_cases ci : 0 ≤ i ∧ i < σ 94 (Int.toNat r)
    · have hf : fndC σ r i 1 = 0 := by unfold fndC; rw [if_neg c, if_pos (by omega)]
      rw [hf]
      have bt : btB 0 i (σ 94 (Int.toNat r) - 1) = true := by rw [bt_in]; exact inB_i ci.1 ci.2
      refine ⟨cutC (σ 93 (Int.toNat r)) v, mup (mup σ 6 (Int.toNat (40 * r + i)) (cutC (σ 93 (Int.toNat r)) v)) 4 7 0, mup (mup (mup (mup (mup σ 6 (Int.toNat (40 * r + i)) (cutC (σ 93 (Int.toNat r)) v)) 4 7 0) 92 0 0) 92 1 0) 95 (Int.toNat (40 * r + i)) (cutC (σ 93 (Int.toNat r)) v), ?_, ?_, rowq_trans (rowq_up (by unfold rowc; omega)) (rowq_up (by unfold rowc; omega)), rowq_trans (rowq_up (by unfold scr; omega)) (rowq_trans (rowq_up (by unfold rowc; omega)) (rowq_up (by unfold rowc; omega))), ?_, fun s hs => ?_⟩
      · rw [x_put (by omega) r1.1 r1.2 ci.1 (by omega), a3]
        simp only [decide_true, cond_true, Option.bind_some, x_fine (show 1 ≤ 98 by omega)]
      · rw [b_M_set, m_isRow (by omega), hr]
        simp (discharger := omega) only [Option.bind_some, dec1, cond_true, minb_t, mup_ne, mw, m_in, bt, mup_eq]
        rw [decide_eq_true a1, cond_true]
        unfold cutC
        by_cases u : σ 93 (Int.toNat r) = 0
        · rw [decide_eq_false (by omega), if_pos u]; rfl
        · rw [decide_eq_true u, if_neg u, cond_true]
          by_cases u : σ 93 (Int.toNat r) = 1
          · rw [decide_eq_false (by omega), if_pos u]; rfl
          · rw [decide_eq_true u, if_neg u]; rfl
      · rw [mup_ne (by omega), mup_ne (by omega), mup_ne (by omega), mup_eq, mup_ne (by omega), mup_eq]
      · have e : ∀ b j, (b = 7 ∨ b = 8 ∨ b = 93 ∨ b = 94) ∨ ((b = 6 ∨ b = 95) ∧ j ≠ Int.toNat (40 * r + i)) → mup (mup (mup (mup (mup σ 6 (Int.toNat (40 * r + i)) (cutC (σ 93 (Int.toNat r)) v)) 4 7 0) 92 0 0) 92 1 0) 95 (Int.toNat (40 * r + i)) (cutC (σ 93 (Int.toNat r)) v) b j = σ b j := fun b j h1 => by
          rw [mup_ne (by omega), mup_ne (by omega), mup_ne (by omega), mup_ne (by omega), mup_ne (by omega)]
        have := w.2 s hs
        rw [e 93 s (by omega), e 8 s (by omega), e 7 s (by omega), e 94 s (by omega)]
        rcases this with a | ⟨a1, a2, a3, a4, a5, a6, a7⟩
        · exact .inl a
        · refine .inr ⟨a1, a2, a3, a4, a5, a6, fun j hj => ?_⟩
          by_cases cj : 40 * s + j = Int.toNat (40 * r + i)
          · rw [cj, mup_eq, mup_ne (by omega), mup_ne (by omega), mup_ne (by omega), mup_ne (by omega), mup_eq]
          · rw [e 6 _ (by omega), e 95 _ (by omega)]
            exact a7 j hj
    · have hf : fndC σ r i 1 = 2 := by unfold fndC; rw [if_neg c, if_neg (by omega)]
      rw [hf]
      have bt : btB 0 i (σ 94 (Int.toNat r) - 1) = false := by
        unfold btB
        by_cases u : 0 ≤ i <;> by_cases v : i ≤ σ 94 (Int.toNat r) - 1 <;> simp [u, v] <;> omega
      refine ⟨mwrap (-1000010 - 2), mup σ 4 7 2, mup (mup (mup (mup σ 4 7 2) 92 0 0) 92 1 0) 92 1 2, ?_, ?_, rowq_up (by unfold rowc; omega), rowq_trans (rowq_up (by unfold scr; omega)) (rowq_trans (rowq_up (by unfold rowc; omega)) (rowq_up (by unfold rowc; omega))), Rrows_st (v := 2) w (fun b j h => by rw [mup_ne (by omega), mup_ne (by omega), mup_ne (by omega), mup_ne (by omega)]) ?_ ?_⟩
      · rw [x_found (show 1 ≤ 98 by omega)]
        all_goals rfl
      · rw [b_M_set, m_isRow (by omega), hr]
        simp (discharger := omega) only [Option.bind_some, dec1, cond_true, minb_t, mup_ne, mw, m_in, bt, m_found (show 1 ≤ 98 by omega)]
        rw [decide_eq_true a1]
        all_goals rfl
      · rw [mup_ne (by omega), mup_ne (by omega), mup_ne (by omega), mup_eq]
      · rw [mup_eq])
/-! the tape -/
theorem m_feed {Ln d : Nat} {σ : mmSt} {x : Int} (h : Rtape σ) : srun (lyT Ln) ((d + 2), 163, 0, [mR 92, mI x], [], σ) = if 0 ≤ x ∧ x ≤ 255 then (if σ 92 11 < 120 then some (mup (mup (mup σ 92 0 0) 100 (Int.toNat (σ 92 11)) x) 92 11 (σ 92 11 + 1), σ 92 11 + 1) else some (mup σ 92 0 0, -1000003)) else some (mup σ 92 0 0, -1000001) := by
  obtain ⟨h1, h2, h3, h4, h5⟩ := h
  rw [b_M_feed, m_in (by omega), Option.bind_some]
  simp only [dec1]
  by_cases q : 0 ≤ x ∧ x ≤ 255
  · rw [if_pos q]
    have : btB 0 x 255 = true := by unfold btB; simp [q.1, q.2]
    by_cases q2 : σ 92 11 < 120
    · simp (discharger := omega) only [this, cond_true, mup_ne, mup_eq, minb_t, mw]
      rw [if_pos q2, decide_eq_true (by omega)]; rfl
    · simp (discharger := omega) only [this, cond_true, mup_ne]
      rw [if_neg q2, decide_eq_false (by omega)]; rfl
  · rw [if_neg q]
    have : btB 0 x 255 = false := by
      unfold btB
      by_cases u : 0 ≤ x <;> by_cases v : x ≤ 255 <;> simp [u, v] <;> omega
    rw [this]; rfl
theorem k_110 (Ln : Nat) : ck_110 Rel Ln := by
  intro x _ σ hR
  have t := hR.2.1
  have t' := t
  obtain ⟨h1, h2, h3, h4, h5⟩ := t'
  by_cases q : 0 ≤ x ∧ x ≤ 255
  · by_cases q2 : σ 92 11 < 120
    · have a := x_feed Ln 96 σ x t
      rw [if_pos q, if_pos q2] at a
      have hc : ∀ b j, b ≠ 9 → b ≠ 20 → b ≠ 100 → (b = 92 → j ≠ 0 ∧ j ≠ 11) → (mup (mup (mup (mup (mup σ 20 (Int.toNat (σ 9 1)) x) 9 1 (σ 92 11 + 1)) 92 0 0) 100 (Int.toNat (σ 92 11)) x) 92 11 (σ 92 11 + 1)) b j = σ b j := fun b j c1 c2 c3 c4 => by
        rw [mup_ne (by omega), mup_ne (by omega), mup_ne (by omega), mup_ne (by omega), mup_ne (by omega)]
      have b := b_M_feed Ln 98 (mup (mup σ 20 (Int.toNat (σ 9 1)) x) 9 1 (σ 92 11 + 1)) x
      refine ⟨_, σ 92 11 + 1, mup (mup (mup (mup (mup σ 20 (Int.toNat (σ 9 1)) x) 9 1 (σ 92 11 + 1)) 92 0 0) 100 (Int.toNat (σ 92 11)) x) 92 11 (σ 92 11 + 1), a, b.trans ?_, ?_, funext fun j => by rw [mup_ne (by omega), mup_ne (by omega)], funext fun j => hc 0 j (by omega) (by omega) (by omega) (by omega)⟩
      · rw [m_in (by omega), Option.bind_some]
        simp only [dec1]
        have : btB 0 x 255 = true := by unfold btB; simp [q.1, q.2]
        simp (discharger := omega) only [this, cond_true, mup_ne, mup_eq, minb_t, mw]
        rw [decide_eq_true (by omega)]; rfl
      · refine Rel_of hR ?_ (rows_of (fun b j h => hc b j (by omega) (by omega) (by omega) (by omega)) hR.2.2.1) (trace_of (fun b j h => hc b j (by omega) (by omega) (by omega) (by omega)) hR.2.2.2.2.2) (fun b j h => hc b j (by unfold cty at h; omega) (by unfold cty at h; omega) (by unfold cty at h; omega) (by unfold cty at h; omega))
        have e20 : ∀ j, (mup (mup (mup (mup (mup σ 20 (Int.toNat (σ 9 1)) x) 9 1 (σ 92 11 + 1)) 92 0 0) 100 (Int.toNat (σ 92 11)) x) 92 11 (σ 92 11 + 1)) 20 j = if (j : Int) = σ 92 11 then x else σ 20 j := fun j => by
          rw [mup_ne (by omega), mup_ne (by omega), mup_ne (by omega), mup_ne (by omega), mup_ap, h1]
          by_cases c : (j : Int) = σ 92 11
          · rw [if_pos c, if_pos (by omega)]
          · rw [if_neg c, if_neg (by omega)]
        have e100 : ∀ j, (mup (mup (mup (mup (mup σ 20 (Int.toNat (σ 9 1)) x) 9 1 (σ 92 11 + 1)) 92 0 0) 100 (Int.toNat (σ 92 11)) x) 92 11 (σ 92 11 + 1)) 100 j = if (j : Int) = σ 92 11 then x else σ 100 j := fun j => by
          rw [mup_ne (by omega), mup_ap, mup_ne (by omega), mup_ne (by omega), mup_ne (by omega)]
          by_cases c : (j : Int) = σ 92 11
          · rw [if_pos c, if_pos (by omega)]
          · rw [if_neg c, if_neg (by omega)]
        unfold Rtape
        rw [mup_eq, mup_ne (b := 9) (by omega), mup_ne (b := 9) (by omega), mup_ne (b := 9) (by omega), mup_eq]
        refine ⟨rfl, by omega, by omega, fun j hj => ?_, ?_⟩
        · rw [e20, e100]
          by_cases c : (j : Int) = σ 92 11
          · rw [if_pos c, if_pos c]; exact ⟨rfl, q.1, q.2⟩
          · rw [if_neg c, if_neg c]; exact h4 j (by omega)
        · rw [mup_ne (by omega), mup_ne (by omega), mup_ne (by omega), mup_ne (by omega), mup_ne (by omega), mup_ne (by omega), mup_ne (by omega), mup_ne (by omega), mup_ne (by omega), mup_ne (by omega)]
          exact h5
    · have a := x_feed Ln 96 σ x t
      have b := m_feed (Ln := Ln) (d := 97) (x := x) t
      rw [if_pos q, if_neg q2] at a b
      exact ⟨σ, _, _, a, b, Rel_quiet q0 hR, rfl, funext fun j => mup_ne (by omega)⟩
  · have a := x_feed Ln 96 σ x t
    have b := m_feed (Ln := Ln) (d := 97) (x := x) t
    rw [if_neg q] at a b
    exact ⟨σ, _, _, a, b, Rel_quiet q0 hR, rfl, funext fun j => mup_ne (by omega)⟩
