/-! foretold: where, how much hay, when -/
def findC (P : Cty → Bool) : Nat → Int → Cty → Int
  | 0, _, _ => -1000000
  | n + 1, k, C => bif P C then k else findC P n (k + 1) (yearC C)
theorem year_2 (C : Cty) : yearC C 2 0 = C 2 0 := year_nf C (by omega) (by omega) (by omega)
theorem year_0 (C : Cty) : yearC C 0 0 = C 0 0 := year_nf C (by omega) (by omega) (by omega)
theorem year_1 (C : Cty) : yearC C 1 0 = C 1 0 := year_nf C (by omega) (by omega) (by omega)
def meetB (q o : Int) (C : Cty) : Bool := !deadB C q && livesB C o (C 9 q)
theorem x_deathL {Ln : Nat} {D : Nat} (hD : 5 ≤ D) {q : Int} (q0 : 0 ≤ q) : ∀ (n : Nat) (z : Int) (σ : mmSt) (C : Cty), KY 15 σ 58 C → q < C 2 0 → z + n = 61 → 0 ≤ z → ∃ σ', srun (lyT Ln) (D, 81, 2, [mR 47, mI q, mI z], [], σ) = some (σ', findC (fun C => deadB C q) n z C) ∧ frX 58 σ σ' := by
  obtain ⟨d, rfl⟩ := Nat.exists_eq_add_of_le' hD
  intro n
  induction n with
  | zero =>
    intro z σ C k _ e h0
    rw [b_Seer_yearsToDeath_2, decide_eq_true (show 60 < z by omega)]
    exact ⟨σ, rfl, frX_rfl _ _⟩
  | succ n ih =>
    intro z σ C k hq e h0
    have kx := KY_X k
    have wf := k.2.2.1.1
    obtain ⟨σ1, e1, k1, f1⟩ := x_year (Ln := Ln) k (show 4 ≤ d + 4 by omega)
    obtain ⟨σ2, e2, f2⟩ := ih (z + 1) σ1 (yearC C) k1 (by rw [year_2]; exact hq) (by omega) (by omega)
    rw [b_Seer_yearsToDeath_2, decide_eq_false (show ¬ 60 < z by omega), cond_false, findC, mw (by omega) (by omega)]
    simp only [x_dead kx (show 1 ≤ d + 4 by omega) q0 hq, Option.bind_some, dec0, e1]
    cases deadB C q
    · exact ⟨σ2, e2, frX_trans f1 f2⟩
    · exact ⟨σ, rfl, frX_rfl _ _⟩
theorem x_comeL {Ln : Nat} {D : Nat} (hD : 5 ≤ D) {q p : Int} (q0 : 0 ≤ q) : ∀ (n : Nat) (z : Int) (σ : mmSt) (C : Cty), KY 15 σ 58 C → q < C 2 0 → z + n = 61 → 0 ≤ z → ∃ σ', srun (lyT Ln) (D, 82, 4, [mR 47, mI q, mI p, mI z], [], σ) = some (σ', findC (fun C => livesB C q p) n z C) ∧ frX 58 σ σ' := by
  obtain ⟨d, rfl⟩ := Nat.exists_eq_add_of_le' hD
  intro n
  induction n with
  | zero =>
    intro z σ C k _ e h0
    rw [b_Seer_yearsToParish_4, decide_eq_true (show 60 < z by omega)]
    exact ⟨σ, rfl, frX_rfl _ _⟩
  | succ n ih =>
    intro z σ C k hq e h0
    have kx := KY_X k
    have wf := k.2.2.1.1
    obtain ⟨σ1, e1, k1, f1⟩ := x_year (Ln := Ln) k (show 4 ≤ d + 4 by omega)
    obtain ⟨σ2, e2, f2⟩ := ih (z + 1) σ1 (yearC C) k1 (by rw [year_2]; exact hq) (by omega) (by omega)
    rw [b_Seer_yearsToParish_4, decide_eq_false (show ¬ 60 < z by omega), cond_false, findC, mw (by omega) (by omega)]
    simp only [x_lives kx (show 2 ≤ d + 4 by omega) q0 hq, Option.bind_some, dec0, e1]
    cases livesB C q p
    · exact ⟨σ2, e2, frX_trans f1 f2⟩
    · exact ⟨σ, rfl, frX_rfl _ _⟩
theorem x_meetL {Ln : Nat} {D : Nat} (hD : 5 ≤ D) {q p : Int} (q0 : 0 ≤ q) (p0 : 0 ≤ p) : ∀ (n : Nat) (z : Int) (σ : mmSt) (C : Cty), KY 15 σ 58 C → (q < C 2 0 ∧ p < C 2 0) → z + n = 61 → 0 ≤ z → ∃ σ', srun (lyT Ln) (D, 83, 4, [mR 47, mI q, mI p, mI z], [], σ) = some (σ', findC (meetB q p) n z C) ∧ frX 58 σ σ' := by
  obtain ⟨d, rfl⟩ := Nat.exists_eq_add_of_le' hD
  intro n
  induction n with
  | zero =>
    intro z σ C k _ e h0
    rw [b_Seer_yearsToMeeting_4, decide_eq_true (show 60 < z by omega)]
    exact ⟨σ, rfl, frX_rfl _ _⟩
  | succ n ih =>
    intro z σ C k hq e h0
    have kx := KY_X k
    have wf := k.2.2.1.1
    obtain ⟨σ1, e1, k1, f1⟩ := x_year (Ln := Ln) k (show 4 ≤ d + 4 by omega)
    obtain ⟨σ2, e2, f2⟩ := ih (z + 1) σ1 (yearC C) k1 (by rw [year_2]; exact hq) (by omega) (by omega)
    rw [b_Seer_yearsToMeeting_4, decide_eq_false (show ¬ 60 < z by omega), cond_false, findC, mw (by omega) (by omega)]
    simp only [x_dead kx (show 1 ≤ d + 4 by omega) q0 hq.1, minb_t q0 (show q < ((5 : Nat) : Int) by omega), cond_true, show σ 64 (Int.toNat q) = C 9 q from x9 kx.2.1 q q0 hq.1, x_lives kx (show 2 ≤ d + 4 by omega) p0 hq.2, Option.bind_some, dec0, dec1, e1]
    unfold meetB
    cases deadB C q <;> cases livesB C p (C 9 q)
    · exact ⟨σ2, e2, frX_trans f1 f2⟩
    · exact ⟨σ, rfl, frX_rfl _ _⟩
    · exact ⟨σ2, e2, frX_trans f1 f2⟩
    · exact ⟨σ2, e2, frX_trans f1 f2⟩
theorem m_deathL {Ln : Nat} {D : Nat} (hD : 6 ≤ D) {q : Int} (q0 : 0 ≤ q) : ∀ (n : Nat) (z : Int) (σ : mmSt) (C : Cty), KM σ 98 C → q < C 2 0 → z + n = 61 → 0 ≤ z → ∃ σ', srun (lyT Ln) (D, 208, 2, [mR 92, mI q, mI z], [], σ) = some (σ', findC (fun C => deadB C q) n z C) ∧ frM 98 σ σ' := by
  obtain ⟨d, rfl⟩ := Nat.exists_eq_add_of_le' hD
  intro n
  induction n with
  | zero =>
    intro z σ C k _ e h0
    rw [b_M_diesBy_2, decide_eq_true (show 60 < z by omega)]
    exact ⟨σ, rfl, frM_rfl _ _⟩
  | succ n ih =>
    intro z σ C k hq e h0
    obtain ⟨σ1, e1, k1, f1, _⟩ := m_year (Ln := Ln) k (show 5 ≤ d + 5 by omega)
    obtain ⟨σ2, e2, f2⟩ := ih (z + 1) σ1 (yearC C) k1 (by rw [year_2]; exact hq) (by omega) (by omega)
    rw [b_M_diesBy_2, decide_eq_false (show ¬ 60 < z by omega), cond_false, findC, mw (by omega) (by omega)]
    simp only [m_alive k (show 2 ≤ d + 5 by omega) q0 hq, Option.bind_some, dec1, e1]
    cases deadB C q
    · exact ⟨σ2, e2, frM_trans f1 f2⟩
    · exact ⟨σ, rfl, frM_rfl _ _⟩
theorem m_comeL {Ln : Nat} {D : Nat} (hD : 6 ≤ D) {q p : Int} (q0 : 0 ≤ q) : ∀ (n : Nat) (z : Int) (σ : mmSt) (C : Cty), KM σ 98 C → q < C 2 0 → z + n = 61 → 0 ≤ z → ∃ σ', srun (lyT Ln) (D, 210, 17, [mR 92, mI q, mI p, mI z], [], σ) = some (σ', findC (fun C => livesB C q p) n z C) ∧ frM 98 σ σ' := by
  obtain ⟨d, rfl⟩ := Nat.exists_eq_add_of_le' hD
  intro n
  induction n with
  | zero =>
    intro z σ C k _ e h0
    rw [b_M_comes_17, decide_eq_true (show 60 < z by omega)]
    exact ⟨σ, rfl, frM_rfl _ _⟩
  | succ n ih =>
    intro z σ C k hq e h0
    obtain ⟨σ1, e1, k1, f1, _⟩ := m_year (Ln := Ln) k (show 5 ≤ d + 5 by omega)
    obtain ⟨σ2, e2, f2⟩ := ih (z + 1) σ1 (yearC C) k1 (by rw [year_2]; exact hq) (by omega) (by omega)
    rw [b_M_comes_17, decide_eq_false (show ¬ 60 < z by omega), cond_false, findC, mw (by omega) (by omega)]
    simp only [m_isIn k (show 3 ≤ d + 5 by omega) q0 hq, Option.bind_some, dec0, e1]
    cases livesB C q p
    · exact ⟨σ2, e2, frM_trans f1 f2⟩
    · exact ⟨σ, rfl, frM_rfl _ _⟩
theorem m_meetL {Ln : Nat} {D : Nat} (hD : 6 ≤ D) {q p : Int} (q0 : 0 ≤ q) (p0 : 0 ≤ p) : ∀ (n : Nat) (z : Int) (σ : mmSt) (C : Cty), KM σ 98 C → (q < C 2 0 ∧ p < C 2 0) → z + n = 61 → 0 ≤ z → ∃ σ', srun (lyT Ln) (D, 211, 20, [mR 92, mI q, mI p, mI z], [], σ) = some (σ', findC (meetB q p) n z C) ∧ frM 98 σ σ' := by
  obtain ⟨d, rfl⟩ := Nat.exists_eq_add_of_le' hD
  intro n
  induction n with
  | zero =>
    intro z σ C k _ e h0
    rw [b_M_meet_20, decide_eq_true (show 60 < z by omega)]
    exact ⟨σ, rfl, frM_rfl _ _⟩
  | succ n ih =>
    intro z σ C k hq e h0
    obtain ⟨σ1, e1, k1, f1, _⟩ := m_year (Ln := Ln) k (show 5 ≤ d + 5 by omega)
    obtain ⟨σ2, e2, f2⟩ := ih (z + 1) σ1 (yearC C) k1 (by rw [year_2]; exact hq) (by omega) (by omega)
    rw [b_M_meet_20, decide_eq_false (show ¬ 60 < z by omega), cond_false, findC, mw (by omega) (by omega)]
    simp only [m_alive k (show 2 ≤ d + 5 by omega) q0 hq.1, m_of1 k (show 1 ≤ d + 5 by omega) q0 hq.1, m_isIn k (show 3 ≤ d + 5 by omega) p0 hq.2, Option.bind_some, dec0, dec1, e1]
    unfold meetB
    cases deadB C q <;> cases livesB C p (C 9 q)
    · exact ⟨σ2, e2, frM_trans f1 f2⟩
    · exact ⟨σ, rfl, frM_rfl _ _⟩
    · exact ⟨σ2, e2, frM_trans f1 f2⟩
    · exact ⟨σ2, e2, frM_trans f1 f2⟩
theorem k_122 (Ln : Nat) : ck_122 Rel Ln := fun q n w _ _ _ => cok_v (fun C => bif inB q (C 2 0) && (btB 0 n 60 && btB 0 w 1) then yearsC (Int.toNat n) (zt C) (if w = 0 then 9 else 10) q else -1000001)
  (fun σ C ⟨h, _, hc⟩ => by
    have b := now_b hc
    rw [b_X_ahead, x_isQuarrel c48 h (by omega) (by omega) (by omega)]
    simp only [Option.bind_some, dec0, dec1, x_within (show 1 ≤ 98 by omega)]
    cases hq : inB q (C 2 0)
    · exact ⟨σ, rfl, quiet_rfl _⟩
    · cases hn : btB 0 n 60
      · exact ⟨σ, rfl, quiet_rfl _⟩
      · cases hw : btB 0 w 1
        · exact ⟨σ, rfl, quiet_rfl _⟩
        · have q1 := inB_t hq
          have n1 := btB_t hn
          obtain ⟨σ1, e, k, f⟩ := x_ahead (Ln := Ln) (show 6 ≤ 98 by omega) n1.1 (by omega) h (good_W (now_q hc hq))
          have q2 : q < yearsC (Int.toNat n) (zt C) 2 0 := by rw [years_nf _ _ (by omega) (by omega) (by omega)]; exact q1.2
          have kx := KY_X k
          simp only [e, Option.bind_some, Bool.not_true, cond_false, cond_true, minb_t q1.1 (show q < ((5 : Nat) : Int) by omega), show σ1 65 (Int.toNat q) = _ from x10 kx.2.1 q q1.1 q2, show σ1 64 (Int.toNat q) = _ from x9 kx.2.1 q q1.1 q2]
          refine ⟨σ1, ?_, fr_quiet f⟩
          by_cases c : w = 0 <;> simp [c])
  (fun σ C ⟨_, h, hc⟩ => by
    have b := now_b hc
    have h := thr h
    rw [b_M_ahead, m_isQuarrel h (by omega) (by omega) (by omega)]
    simp only [Option.bind_some, dec0, dec1, m_in (show 1 ≤ 98 by omega)]
    cases hq : inB q (C 2 0)
    · exact ⟨_, rfl, q0⟩
    · cases hn : btB 0 n 60
      · exact ⟨_, rfl, q0⟩
      · cases hw : btB 0 w 1
        · exact ⟨_, rfl, q0⟩
        · have q1 := inB_t hq
          have n1 := btB_t hn
          have w1 := btB_t hw
          obtain ⟨σ1, e, k, f⟩ := m_lay (Ln := Ln) h (good_W (now_q hc hq)) (show 1 ≤ 98 by omega)
          obtain ⟨σ2, e2, k2, f2⟩ := m_years (Ln := Ln) (show 6 ≤ 98 by omega) n1.1 (by omega) k
          have q2 : q < yearsC (Int.toNat n) (zt C) 2 0 := by rw [years_nf _ _ (by omega) (by omega) (by omega)]; exact q1.2
          simp only [e, e2, Option.bind_some, Bool.not_true, cond_false, cond_true]
          refine ⟨σ2, ?_, quiet_trans q0 (quiet_trans (frM_quiet f) (frM_quiet f2))⟩
          have : w = 0 ∨ w = 1 := by omega
          rcases this with rfl | rfl
          · rw [show mwrap (1 + 0) = 1 from rfl, m_of1 k2 (by omega) q1.1 q2]; rfl
          · rw [show mwrap (1 + 1) = 2 from rfl, m_of2 k2 (by omega) q1.1 q2]; rfl)
theorem k_123 (Ln : Nat) : ck_123 Rel Ln := fun p n _ _ => cok_v (fun C => bif inB p (C 0 0) && btB 0 n 60 then yearsC (Int.toNat n) (zt C) 4 p else -1000001)
  (fun σ C ⟨h, _, hc⟩ => by
    have b := now_b hc
    rw [b_X_hayAhead, x_isParish c48 h (by omega) (by omega) (by omega)]
    simp only [Option.bind_some, dec0, dec1, x_within (show 1 ≤ 98 by omega)]
    cases hq : inB p (C 0 0)
    · exact ⟨σ, rfl, quiet_rfl _⟩
    · cases hn : btB 0 n 60
      · exact ⟨σ, rfl, quiet_rfl _⟩
      · have q1 := inB_t hq
        have n1 := btB_t hn
        obtain ⟨σ1, e, k, f⟩ := x_ahead (Ln := Ln) (show 6 ≤ 98 by omega) n1.1 (by omega) h (good_W (now_p hc hq))
        have kx := KY_X k
        simp only [e, Option.bind_some, Bool.not_true, cond_false, cond_true, minb_t q1.1 (show p < ((7 : Nat) : Int) by omega), show σ1 59 (Int.toNat p) = _ from x4 kx.2.1 p q1.1 (by omega)]
        exact ⟨σ1, rfl, fr_quiet f⟩)
  (fun σ C ⟨_, h, hc⟩ => by
    have b := now_b hc
    have h := thr h
    rw [b_M_hayAhead, m_isParish h (by omega) (by omega) (by omega)]
    simp only [Option.bind_some, dec0, dec1, m_in (show 1 ≤ 98 by omega)]
    cases hq : inB p (C 0 0)
    · exact ⟨_, rfl, q0⟩
    · cases hn : btB 0 n 60
      · exact ⟨_, rfl, q0⟩
      · have q1 := inB_t hq
        have n1 := btB_t hn
        obtain ⟨σ1, e, k, f⟩ := m_lay (Ln := Ln) h (good_W (now_p hc hq)) (show 1 ≤ 98 by omega)
        obtain ⟨σ2, e2, k2, f2⟩ := m_years (Ln := Ln) (show 6 ≤ 98 by omega) n1.1 (by omega) k
        simp only [e, e2, Option.bind_some, Bool.not_true, cond_false, cond_true, mw (show -2147483648 ≤ 4 + p by omega) (by omega), minb_t (show 0 ≤ 4 + p by omega) (show 4 + p < ((52 : Nat) : Int) by omega), m4 k2.2.1 p q1.1 (by omega)]
        exact ⟨σ2, rfl, quiet_trans q0 (quiet_trans (frM_quiet f) (frM_quiet f2))⟩)
theorem k_124 (Ln : Nat) : ck_124 Rel Ln := fun q _ => cok_v (fun C => bif inB q (C 2 0) then findC (fun C => deadB C q) 61 0 (zt C) else -1000001)
  (fun σ C ⟨h, _, hc⟩ => by
    have b := now_b hc
    rw [b_X_dies, x_isQuarrel c48 h (by omega) (by omega) (by omega)]
    simp only [Option.bind_some, dec0, dec1]
    cases hq : inB q (C 2 0)
    · exact ⟨σ, rfl, quiet_rfl _⟩
    · have q1 := inB_t hq
      obtain ⟨σ1, e, k, f⟩ := x_begin (Ln := Ln) h (good_W (now_q hc hq)) (show 2 ≤ 98 by omega)
      obtain ⟨σ2, e2, f2⟩ := x_deathL (Ln := Ln) (show 5 ≤ 98 by omega) q1.1 61 0 σ1 (zt C) k q1.2 (by omega) (by omega)
      simp only [e, Option.bind_some, cond_true]
      rw [b_Seer_yearsToDeath, e2]
      exact ⟨σ2, rfl, fr_quiet (frX_trans f f2)⟩)
  (fun σ C ⟨_, h, hc⟩ => by
    have b := now_b hc
    have h := thr h
    rw [b_M_dies, m_isQuarrel h (by omega) (by omega) (by omega)]
    simp only [Option.bind_some, dec0, dec1]
    cases hq : inB q (C 2 0)
    · exact ⟨_, rfl, q0⟩
    · have q1 := inB_t hq
      obtain ⟨σ1, e, k, f⟩ := m_lay (Ln := Ln) h (good_W (now_q hc hq)) (show 1 ≤ 98 by omega)
      obtain ⟨σ2, e2, f2⟩ := m_deathL (Ln := Ln) (show 6 ≤ 98 by omega) q1.1 61 0 σ1 (zt C) k q1.2 (by omega) (by omega)
      simp only [e, Option.bind_some, cond_true]
      rw [b_M_diesBy, e2]
      exact ⟨σ2, rfl, quiet_trans q0 (frM_quiet (frM_trans f f2))⟩)
theorem k_125 (Ln : Nat) : ck_125 Rel Ln := fun q p _ _ => cok_v (fun C => bif inB q (C 2 0) && inB p (C 0 0) then findC (fun C => livesB C q p) 61 0 (zt C) else -1000001)
  (fun σ C ⟨h, _, hc⟩ => by
    have b := now_b hc
    rw [b_X_comes, x_isQuarrel c48 h (by omega) (by omega) (by omega)]
    simp only [Option.bind_some, dec0, dec1, x_isParish c48 h b.1 b.2.1 (show 2 ≤ 98 by omega)]
    cases hq : inB q (C 2 0)
    · exact ⟨σ, rfl, quiet_rfl _⟩
    · cases hp : inB p (C 0 0)
      · exact ⟨σ, rfl, quiet_rfl _⟩
      · have q1 := inB_t hq
        obtain ⟨σ1, e, k, f⟩ := x_begin (Ln := Ln) h (good_W (now_q hc hq)) (show 2 ≤ 97 by omega)
        obtain ⟨σ2, e2, f2⟩ := x_comeL (Ln := Ln) (p := p) (show 5 ≤ 98 by omega) q1.1 61 0 σ1 (zt C) k q1.2 (by omega) (by omega)
        rw [b_Seer_yearsToParish, e, Option.bind_some, e2]
        exact ⟨σ2, rfl, fr_quiet (frX_trans f f2)⟩)
  (fun σ C ⟨_, h, hc⟩ => by
    have b := now_b hc
    have h := thr h
    rw [b_M_comes, m_isQuarrel h (by omega) (by omega) (by omega)]
    simp only [Option.bind_some, dec0, dec1, m_isParish h b.1 b.2.1 (show 2 ≤ 98 by omega)]
    cases hq : inB q (C 2 0)
    · exact ⟨_, rfl, q0⟩
    · cases hp : inB p (C 0 0)
      · exact ⟨_, rfl, q0⟩
      · have q1 := inB_t hq
        obtain ⟨σ1, e, k, f⟩ := m_lay (Ln := Ln) h (good_W (now_q hc hq)) (show 1 ≤ 98 by omega)
        obtain ⟨σ2, e2, f2⟩ := m_comeL (Ln := Ln) (p := p) (show 6 ≤ 99 by omega) q1.1 61 0 σ1 (zt C) k q1.2 (by omega) (by omega)
        simp only [e, Option.bind_some, Bool.not_true, cond_false, cond_true]
        exact ⟨σ2, e2, quiet_trans q0 (frM_quiet (frM_trans f f2))⟩)
theorem k_126 (Ln : Nat) : ck_126 Rel Ln := fun q p _ _ => cok_v (fun C => bif inB q (C 2 0) && (inB p (C 2 0) && !decide (q = p)) then findC (meetB q p) 61 0 (zt C) else -1000001)
  (fun σ C ⟨h, _, hc⟩ => by
    have b := now_b hc
    rw [b_X_meet, x_isQuarrel c48 h (by omega) (by omega) (by omega)]
    simp only [Option.bind_some, dec0, dec1, x_isQuarrel c48 h b.2.2.2.2.1 (show C 2 0 ≤ 7 by omega) (show 2 ≤ 98 by omega)]
    cases hq : inB q (C 2 0)
    · exact ⟨σ, rfl, quiet_rfl _⟩
    · cases hp : inB p (C 2 0)
      · exact ⟨σ, rfl, quiet_rfl _⟩
      · by_cases ho : q = p
        · rw [decide_eq_true ho, decide_eq_false (show ¬ ¬ q = p by omega)]; exact ⟨σ, rfl, quiet_rfl _⟩
        · have q1 := inB_t hq
          have p1 := inB_t hp
          obtain ⟨σ1, e, k, f⟩ := x_begin (Ln := Ln) h (good_W (now_q hc hq)) (show 2 ≤ 97 by omega)
          obtain ⟨σ2, e2, f2⟩ := x_meetL (Ln := Ln) (show 5 ≤ 98 by omega) q1.1 p1.1 61 0 σ1 (zt C) k ⟨q1.2, p1.2⟩ (by omega) (by omega)
          rw [b_Seer_yearsToMeeting, e, Option.bind_some, e2, decide_eq_true ho, decide_eq_false ho]
          exact ⟨σ2, rfl, fr_quiet (frX_trans f f2)⟩)
  (fun σ C ⟨_, h, hc⟩ => by
    have b := now_b hc
    have h := thr h
    rw [b_M_meet, m_isQuarrel h (by omega) (by omega) (by omega)]
    simp only [Option.bind_some, dec0, dec1, m_isQuarrel h b.2.2.2.2.1 (show C 2 0 ≤ 7 by omega) (show 2 ≤ 98 by omega)]
    cases hq : inB q (C 2 0)
    · exact ⟨_, rfl, q0⟩
    · cases hp : inB p (C 2 0)
      · exact ⟨_, rfl, q0⟩
      · by_cases ho : q = p
        · rw [decide_eq_true ho, decide_eq_false (show ¬ ¬ q = p by omega)]; exact ⟨_, rfl, q0⟩
        · have q1 := inB_t hq
          have p1 := inB_t hp
          obtain ⟨σ1, e, k, f⟩ := m_lay (Ln := Ln) h (good_W (now_q hc hq)) (show 1 ≤ 98 by omega)
          obtain ⟨σ2, e2, f2⟩ := m_meetL (Ln := Ln) (show 6 ≤ 99 by omega) q1.1 p1.1 61 0 σ1 (zt C) k ⟨q1.2, p1.2⟩ (by omega) (by omega)
          rw [decide_eq_true ho, decide_eq_false ho]
          simp only [e, Option.bind_some, Bool.not_true, cond_false, cond_true]
          exact ⟨σ2, e2, quiet_trans q0 (frM_quiet (frM_trans f f2))⟩)
theorem x13 {σ : mmSt} {a : Nat} {C : Cty} (h : rep 15 (cX σ a) C) : σ a 12 = C 13 0 := h 13 0 (by decide) (by decide) (by show (0 : Int) < 1; decide)
theorem x14 {σ : mmSt} {a : Nat} {C : Cty} (h : rep 15 (cX σ a) C) : σ a 13 = C 14 0 := h 14 0 (by decide) (by decide) (by show (0 : Int) < 1; decide)
theorem x12 {σ : mmSt} {a : Nat} {C : Cty} (h : rep 15 (cX σ a) C) (p : Int) (h0 : 0 ≤ p) (h1 : p < C 2 0) : σ (a + 9) (Int.toNat p) = C 12 p := h 12 p (by decide) h0 h1
theorem m_grazL {Ln : Nat} {N : Int} {D : Nat} (hD : 6 ≤ D) (hN : N ≤ 100) : ∀ (n : Nat) (z s : Int) (σ : mmSt) (C : Cty), KM σ 98 C → tv C → s = C 13 0 → z + n = N → 0 ≤ z → ∃ σ', srun (lyT Ln) (D, 212, 22, [mR 92, mI N, mI s, mI z], [], σ) = some (σ', yearsC n C 13 0) ∧ frM 98 σ σ' := by
  obtain ⟨d, rfl⟩ := Nat.exists_eq_add_of_le' hD
  intro n
  induction n with
  | zero =>
    intro z s σ C k t hs e h0
    rw [b_M_grazed_22, decide_eq_true (by omega), hs]
    exact ⟨σ, rfl, frM_rfl _ _⟩
  | succ n ih =>
    intro z s σ C k t hs e h0
    obtain ⟨σ1, e1, k1, f1, t1⟩ := m_year (Ln := Ln) k (show 5 ≤ d + 5 by omega)
    have t2 := t1 t
    rw [b_M_grazed_22, decide_eq_false (by omega), cond_false, e1, Option.bind_some, mw (by omega) (by omega)]
    obtain ⟨σ2, e2, f2⟩ := ih (z + 1) (mor s (σ1 92 20)) σ1 (yearC C) k1 t2.2 (by rw [hs, t2.1.1]) (by omega) (by omega)
    exact ⟨σ2, e2, frM_trans f1 f2⟩
theorem k_127 (Ln : Nat) : ck_127 Rel Ln := fun n _ => cok_v (fun C => bif decide (0 < C 0 0) then (bif btB 1 n 60 then yearsC (Int.toNat n) (zt C) 13 0 else -1000001) else -1000002)
  (fun σ C ⟨h, _, hc⟩ => by
    rw [b_X_grazed, x_isTold c48 h (by omega)]
    simp only [Option.bind_some, dec0, dec1, x_within (show 1 ≤ 98 by omega)]
    cases hq : decide (0 < C 0 0)
    · exact ⟨σ, rfl, quiet_rfl _⟩
    · cases hn : btB 1 n 60
      · exact ⟨σ, rfl, quiet_rfl _⟩
      · have n1 := btB_t hn
        obtain ⟨σ1, e, k, f⟩ := x_ahead (Ln := Ln) (show 6 ≤ 98 by omega) (show 0 ≤ n by omega) (by omega) h (good_W (now_t hc hq))
        simp only [e, Option.bind_some, cond_true, x13 k.2.1]
        exact ⟨σ1, rfl, fr_quiet f⟩)
  (fun σ C ⟨_, h, hc⟩ => by
    have h := thr h
    rw [b_M_grazed, m_isThere h (by omega)]
    simp only [Option.bind_some, dec0, dec1, m_in (show 1 ≤ 98 by omega)]
    cases hq : decide (0 < C 0 0)
    · exact ⟨_, rfl, q0⟩
    · cases hn : btB 1 n 60
      · exact ⟨_, rfl, q0⟩
      · have n1 := btB_t hn
        obtain ⟨σ1, e, k, f⟩ := m_lay (Ln := Ln) h (good_W (now_t hc hq)) (show 1 ≤ 98 by omega)
        obtain ⟨σ2, e2, f2⟩ := m_grazL (Ln := Ln) (N := n) (show 6 ≤ 99 by omega) (by omega) (Int.toNat n) 0 0 σ1 (zt C) k (tv_zt C) rfl (by omega) (by omega)
        simp only [e, Option.bind_some, cond_true]
        exact ⟨σ2, e2, quiet_trans q0 (frM_quiet (frM_trans f f2))⟩)
