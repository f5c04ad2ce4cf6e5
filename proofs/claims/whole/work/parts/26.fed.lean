/-! fed, starve -/
def mostL (f : Int → Int) : Nat → Int → Int → Int
  | 0, _, b => b
  | n + 1, q, b => mostL f n (q + 1) (bif decide (f b < f q) then q else b)
theorem most_in {f : Int → Int} {N : Int} : ∀ (n : Nat) (q b : Int), q + n = N → 0 ≤ q → 0 ≤ b → b < N → 0 ≤ mostL f n q b ∧ mostL f n q b < N := by
  intro n
  induction n with
  | zero => intro q b _ _ b0 b1; exact ⟨b0, b1⟩
  | succ n ih =>
    intro q b e q0 b0 b1
    rw [mostL]
    cases decide (f b < f q)
    · exact ih (q + 1) b (by omega) (by omega) b0 b1
    · exact ih (q + 1) q (by omega) (by omega) (by omega) (by omega)
theorem most_cg {f g : Int → Int} {N : Int} (h : ∀ j, 0 ≤ j → j < N → f j = g j) : ∀ (n : Nat) (q b : Int), q + n = N → 0 ≤ q → 0 ≤ b → b < N → mostL f n q b = mostL g n q b := by
  intro n
  induction n with
  | zero => intro q b _ _ _ _; rfl
  | succ n ih =>
    intro q b e q0 b0 b1
    rw [mostL, mostL, h q q0 (by omega), h b b0 b1]
    cases decide (g b < g q)
    · exact ih (q + 1) b (by omega) (by omega) b0 b1
    · exact ih (q + 1) q (by omega) (by omega) (by omega) (by omega)
theorem x_most {Ln : Nat} {σ : mmSt} {C : Cty} (k : KY 15 σ 58 C) {D : Nat} (hD : 1 ≤ D) : srun (lyT Ln) (D, 43, 0, [mR 58, mJ, mJ], [], σ) = some (σ, mostL (C 12) (Int.toNat (C 2 0 - 1)) 1 0) := by
  obtain ⟨d, rfl⟩ := Nat.exists_eq_add_of_le' hD
  have w := k.2.2.1.1
  have kx := KY_X k
  rw [b_County_mostMeals _ _ _ _ c58]
  have : ∀ (n : Nat) (q b : Int), q + n = C 2 0 → 0 ≤ q → 0 ≤ b → b < C 2 0 → srun (lyT Ln) (d + 1, 43, 4, [mR 58, mI b, mI q], [], σ) = some (σ, mostL (C 12) n q b) := by
    intro n
    induction n with
    | zero => intro q b e _ _ _; rw [b_County_mostMeals_4 _ _ _ _ _ _ c58, x2 kx.2.1, decide_eq_true (by omega)]; rfl
    | succ n ih =>
      intro q b e q0 b0 b1
      rw [b_County_mostMeals_4 _ _ _ _ _ _ c58, x2 kx.2.1, decide_eq_false (by omega), cond_false, minb_t q0 (by omega), minb_t b0 (by omega), cond_true, cond_true, x12 k.2.1 q q0 (by omega), x12 k.2.1 b b0 b1, mw (by omega) (by omega), mostL, dle, ih (q + 1) b (by omega) (by omega) b0 b1, ih (q + 1) q (by omega) (by omega) (by omega) (by omega)]
      cases decide (C 12 b < C 12 q) <;> rfl
  exact this _ 1 0 (by omega) (by omega) (by omega) (by omega)
def frF (σ σ' : mmSt) : Prop := ∀ b j, ¬ (b = 98 ∨ b = 101 ∨ (b = 92 ∧ 19 ≤ j ∧ j ≤ 21)) → σ' b j = σ b j
theorem frF_quiet {σ σ' : mmSt} (f : frF σ σ') : quiet σ σ' := fun b j h => f b j (by unfold scr at h; omega)
theorem frF_trans {s t u : mmSt} (h : frF s t) (k : frF t u) : frF s u := fun b j q => (k b j q).trans (h b j q)
theorem m_fed26 {Ln : Nat} {N w : Int} : ∀ (n : Nat) (z : Int) (σ : mmSt), z + n = 5 → 0 ≤ z → ∃ σ', srun (lyT Ln) (99, 220, 26, [mR 92, mI N, mI w, mI z, mJ], [], σ) = srun (lyT Ln) (99, 220, 38, [mR 92, mI N, mI w, mI 0, mJ], [], σ') ∧ ∀ b (j : Nat), σ' b j = if b = 101 ∧ z ≤ (j : Int) ∧ j < 5 then 0 else σ b j := by
  intro n
  induction n with
  | zero =>
    intro z σ e h0
    rw [b_M_fed_26, decide_eq_true (show 5 ≤ z by omega), cond_true]
    exact ⟨σ, rfl, fun b j => by rw [if_neg (by omega)]⟩
  | succ n ih =>
    intro z σ e h0
    rw [b_M_fed_26, decide_eq_false (show ¬ 5 ≤ z by omega), cond_false, minb_t h0 (by omega), cond_true, mw (by omega) (by omega)]
    obtain ⟨σ', e1, f1⟩ := ih (z + 1) (mup σ 101 (Int.toNat z) 0) (by omega) (by omega)
    refine ⟨σ', e1, fun b j => ?_⟩
    rw [f1, mup_ap]
    by_cases c : b = 101 ∧ z ≤ (j : Int) ∧ j < 5
    · rw [if_pos c]
      by_cases c2 : (j : Int) = z
      · rw [if_neg (by omega), if_pos (by omega)]
      · rw [if_pos (by omega)]
    · rw [if_neg c, if_neg (by omega), if_neg (by omega)]
theorem m_fed47 {Ln : Nat} {N w z3 M : Int} (hM : M ≤ 5) (z30 : 0 ≤ z3) (z31 : z3 < 100) : ∀ (n : Nat) (i : Int) (σ : mmSt), i + n = M → 0 ≤ i → σ 96 2 = M → ∃ σ', srun (lyT Ln) (99, 220, 47, [mR 92, mI N, mI w, mI z3, mI i], [], σ) = srun (lyT Ln) (99, 220, 38, [mR 92, mI N, mI w, mI (z3 + 1), mI M], [], σ') ∧ ∀ b (j : Nat), σ' b j = if b = 101 ∧ i ≤ (j : Int) ∧ (j : Int) < M then mwrap (σ 101 j + mand (mshr (σ 92 19) (j : Int)) 1) else σ b j := by
  intro n
  induction n with
  | zero =>
    intro i σ e h0 h2
    rw [b_M_fed_47, h2, decide_eq_true (by omega), cond_true, mw (by omega) (by omega), show i = M by omega]
    exact ⟨σ, rfl, fun b j => by rw [if_neg (by omega)]⟩
  | succ n ih =>
    intro i σ e h0 h2
    rw [b_M_fed_47, h2, decide_eq_false (by omega), cond_false, minb_t h0 (by omega), cond_true, cond_true, mw (z := i + 1) (by omega) (by omega)]
    obtain ⟨σ', e1, f1⟩ := ih (i + 1) (mup σ 101 (Int.toNat i) (mwrap (σ 101 (Int.toNat i) + mand (mshr (σ 92 19) i) 1))) (by omega) (by omega) (by rw [mup_ne (by omega)]; exact h2)
    refine ⟨σ', e1, fun b j => ?_⟩
    rw [f1, mup_ne (b := 92) (by omega)]
    by_cases c : b = 101 ∧ i ≤ (j : Int) ∧ (j : Int) < M
    · rw [if_pos c]
      by_cases c2 : (j : Int) = i
      · rw [if_neg (by omega), mup_ap, if_pos (by omega), show Int.toNat i = j by omega, c2]
      · rw [if_pos (by omega), mup_ne (by omega)]
    · rw [if_neg c, if_neg (by omega), mup_ne (by omega)]
theorem m_fed38 {Ln : Nat} {N w M : Int} (hM : M ≤ 5) (hN : N ≤ 60) : ∀ (n : Nat) (z : Int) (σ : mmSt) (D : Cty) (v4 : mmV), KM σ 98 D → tv D → D 2 0 = M → σ 96 2 = M → (∀ j : Int, 0 ≤ j → j < M → σ 101 (Int.toNat j) = D 12 j) → z + n = N → 0 ≤ z → ∃ σ', srun (lyT Ln) (99, 220, 38, [mR 92, mI N, mI w, mI z, v4], [], σ) = srun (lyT Ln) (99, 220, 74, [mR 92, mI N, mI w, mI 0, mI 1], [], σ') ∧ (∀ j : Int, 0 ≤ j → j < M → σ' 101 (Int.toNat j) = yearsC n D 12 j) ∧ frF σ σ' := by
  intro n
  induction n with
  | zero =>
    intro z σ D v4 k t h2 h96 hm e h0
    rw [b_M_fed_38, decide_eq_true (by omega), cond_true]
    exact ⟨σ, rfl, hm, fun _ _ _ => rfl⟩
  | succ n ih =>
    intro z σ D v4 k t h2 h96 hm e h0
    obtain ⟨σ1, e1, k1, f1, t1⟩ := m_year (Ln := Ln) k (show 5 ≤ 98 by omega)
    obtain ⟨t2, t3⟩ := t1 t
    have h96' : σ1 96 2 = M := (f1 96 2 (by omega)).trans h96
    obtain ⟨σ2, e2, f2⟩ := m_fed47 (Ln := Ln) (N := N) (w := w) (z3 := z) hM h0 (by omega) (Int.toNat M) 0 σ1 (by have := k.2.2.1; omega) (by omega) h96'
    have k2 : KM σ2 98 (yearC D) := ⟨k1.1, rep_M_of (fun j => by rw [f2, if_neg (by omega)]) k1.2.1, k1.2.2⟩
    obtain ⟨σ3, e3, m3, f3⟩ := ih (z + 1) σ2 (yearC D) (mI M) k2 t3 (by rw [year_2]; exact h2) (by rw [f2, if_neg (by omega)]; exact h96') (fun j j0 j1 => by
      rw [f2, if_pos (by omega), t2.2.2.2 j j0 (by omega), f1 101 _ (by omega), hm j j0 j1, Int.toNat_of_nonneg j0]) (by omega) (by omega)
    refine ⟨σ3, ?_, m3, frF_trans (fun b j h => ?_) f3⟩
    · rw [b_M_fed_38, decide_eq_false (by omega), cond_false, e1, Option.bind_some]
      exact e2.trans e3
    · rw [f2, if_neg (by omega), f1 b j (by omega)]
theorem m_fed74 {Ln : Nat} {N w M : Int} {σ : mmSt} (hM : M ≤ 5) (h96 : σ 96 2 = M) : ∀ (n : Nat) (q b : Int), q + n = M → 0 ≤ q → 0 ≤ b → b < M → srun (lyT Ln) (99, 220, 74, [mR 92, mI N, mI w, mI b, mI q], [], σ) = some (σ, if w = 0 then mostL (fun j => σ 101 (Int.toNat j)) n q b else σ 101 (Int.toNat (mostL (fun j => σ 101 (Int.toNat j)) n q b))) := by
  intro n
  induction n with
  | zero =>
    intro q b e q0 b0 b1
    rw [b_M_fed_74, h96, decide_eq_true (by omega), minb_t b0 (by omega)]
    by_cases c : w = 0
    · rw [if_pos c, decide_eq_false (by omega)]; rfl
    · rw [if_neg c, decide_eq_true c]; rfl
  | succ n ih =>
    intro q b e q0 b0 b1
    rw [b_M_fed_74, h96, decide_eq_false (by omega), cond_false, minb_t q0 (by omega), minb_t b0 (by omega), cond_true, cond_true, mw (by omega) (by omega), mostL, dle, ih (q + 1) b (by omega) (by omega) b0 b1, ih (q + 1) q (by omega) (by omega) (by omega) (by omega)]
    cases decide (σ 101 (Int.toNat b) < σ 101 (Int.toNat q)) <;> rfl
def fedC (C : Cty) (n w : Int) : Int := if w = 0 then mostL (yearsC (Int.toNat n) (zt C) 12) (Int.toNat (C 2 0 - 1)) 1 0 else yearsC (Int.toNat n) (zt C) 12 (mostL (yearsC (Int.toNat n) (zt C) 12) (Int.toNat (C 2 0 - 1)) 1 0)
theorem k_134 (Ln : Nat) : ck_134 Rel Ln := fun n w _ _ => cok_v (fun C => bif decide (0 < C 0 0) then (bif btB 1 n 60 && btB 0 w 1 then fedC C n w else -1000001) else -1000002)
  (fun σ C ⟨h, _, hc⟩ => by
    rw [b_X_fed, x_isTold c48 h (by omega)]
    simp only [Option.bind_some, dec0, dec1, x_within (show 1 ≤ 98 by omega)]
    cases hq : decide (0 < C 0 0)
    · exact ⟨σ, rfl, quiet_rfl _⟩
    · cases hn : btB 1 n 60
      · exact ⟨σ, rfl, quiet_rfl _⟩
      · cases hw : btB 0 w 1
        · exact ⟨σ, rfl, quiet_rfl _⟩
        · have n1 := btB_t hn
          have G := now_t hc hq
          have wf := G.1.1
          obtain ⟨σ1, e, k, f⟩ := x_ahead (Ln := Ln) (show 6 ≤ 98 by omega) (show 0 ≤ n by omega) (by omega) h (good_W G)
          have y2 : yearsC (Int.toNat n) (zt C) 2 0 = C 2 0 := years_nf _ _ (by omega) (by omega) (by omega)
          have mi := most_in (f := yearsC (Int.toNat n) (zt C) 12) (N := C 2 0) (Int.toNat (C 2 0 - 1)) 1 0 (by omega) (by omega) (by omega) (by omega)
          simp only [e, Option.bind_some, cond_true, Bool.not_true, cond_false, x_most k (show 1 ≤ 98 by omega), y2, minb_t mi.1 (show mostL (yearsC (Int.toNat n) (zt C) 12) (Int.toNat (C 2 0 - 1)) 1 0 < ((5 : Nat) : Int) by omega), show σ1 67 (Int.toNat (mostL (yearsC (Int.toNat n) (zt C) 12) (Int.toNat (C 2 0 - 1)) 1 0)) = _ from x12 k.2.1 _ mi.1 (by rw [y2]; exact mi.2)]
          refine ⟨σ1, ?_, fr_quiet f⟩
          unfold fedC
          by_cases c : w = 0
          · rw [if_pos c, decide_eq_false (by omega)]; rfl
          · rw [if_neg c, decide_eq_true c]; rfl)
  (fun σ C ⟨_, h, hc⟩ => by
    have h := thr h
    rw [b_M_fed, m_isThere h (by omega)]
    simp only [Option.bind_some, dec0, dec1, m_in (show 1 ≤ 98 by omega)]
    cases hq : decide (0 < C 0 0)
    · exact ⟨_, rfl, q0⟩
    · cases hn : btB 1 n 60
      · exact ⟨_, rfl, q0⟩
      · cases hw : btB 0 w 1
        · exact ⟨_, rfl, q0⟩
        · have n1 := btB_t hn
          have G := now_t hc hq
          have wf := G.1.1
          obtain ⟨σ1, e, k, f⟩ := m_lay (Ln := Ln) h (good_W G) (show 1 ≤ 98 by omega)
          obtain ⟨σ2, e2, f2⟩ := m_fed26 (Ln := Ln) (N := n) (w := w) 5 0 σ1 (by omega) (by omega)
          have k2 : KM σ2 98 (zt C) := ⟨k.1, rep_M_of (fun j => by rw [f2, if_neg (by omega)]) k.2.1, k.2.2⟩
          have h2 : σ1 96 2 = C 2 0 := (f 96 2 (by omega)).trans (m2 h)
          have h2' : σ2 96 2 = C 2 0 := by rw [f2, if_neg (by omega)]; exact h2
          obtain ⟨σ3, e3, m3, f3⟩ := m_fed38 (Ln := Ln) (N := n) (w := w) (M := C 2 0) (by omega) (by omega) (Int.toNat n) 0 σ2 (zt C) mJ k2 (tv_zt C) rfl h2' (fun j j0 j1 => by rw [f2, if_pos (by omega)]; rfl) (by omega) (by omega)
          have h3 : σ3 96 2 = C 2 0 := (f3 96 2 (by omega)).trans h2'
          have e4 := m_fed74 (Ln := Ln) (N := n) (w := w) (show C 2 0 ≤ 5 by omega) h3 (Int.toNat (C 2 0 - 1)) 1 0 (by omega) (by omega) (by omega) (by omega)
          simp only [e, Option.bind_some, cond_true, Bool.not_true, cond_false]
          refine ⟨σ3, (e2.trans (e3.trans e4)).trans ?_, quiet_trans q0 (quiet_trans (frM_quiet f) (quiet_trans (fun b j hs => ?_) (frF_quiet f3)))⟩
          · unfold fedC
            have mi := most_in (f := yearsC (Int.toNat n) (zt C) 12) (N := C 2 0) (Int.toNat (C 2 0 - 1)) 1 0 (by omega) (by omega) (by omega) (by omega)
            rw [most_cg (f := fun j => σ3 101 (Int.toNat j)) (g := yearsC (Int.toNat n) (zt C) 12) (N := C 2 0) m3 _ 1 0 (by omega) (by omega) (by omega) (by omega), m3 _ mi.1 mi.2]
            rfl
          · unfold scr at hs
            rw [f2, if_neg (by omega)])
def dwC (C : Cty) (q p : Int) : Int := findC (fun D => deadB D q) 61 0 (cup (zt C) 4 p 0)
theorem find_in {P : Cty → Bool} : ∀ (n : Nat) (k : Int) (C : Cty), findC P n k C = -1000000 ∨ (k ≤ findC P n k C ∧ findC P n k C < k + n) := by
  intro n
  induction n with
  | zero => intro k C; exact .inl rfl
  | succ n ih =>
    intro k C
    rw [findC]
    cases P C
    · rcases ih (k + 1) (yearC C) with a | a
      · exact .inl a
      · right
        show k ≤ findC P n (k + 1) (yearC C) ∧ findC P n (k + 1) (yearC C) < k + (n + 1 : Nat)
        omega
    · right
      show k ≤ k ∧ k < k + (n + 1 : Nat)
      omega
theorem x_without {Ln : Nat} {σ : mmSt} {C : Cty} (h : rep 12 (cX σ 48) C) (w : WF 12 C) {q p : Int} (q0 : 0 ≤ q) (q1 : q < C 2 0) (p0 : 0 ≤ p) (p1 : p < C 0 0) {D : Nat} (hD : 6 ≤ D) : ∃ σ', srun (lyT Ln) (D, 91, 0, [mR 47, mI q, mI p], [], σ) = some (σ', dwC C q p) ∧ frX 58 σ σ' := by
  obtain ⟨d, rfl⟩ := Nat.exists_eq_add_of_le' hD
  have wf := w.1
  obtain ⟨σ1, e1, k1, f1⟩ := x_begin (Ln := Ln) h w (show 2 ≤ d + 5 by omega)
  have k2 : KY 15 (mup σ1 59 (Int.toNat p) 0) 58 (cup (zt C) 4 p 0) := ⟨k1.1, rep_upX (f := 4) (by omega) (by omega) p0 (fun _ => rfl) k1.2.1, WF_upd k1.2.2.1 (.inr (.inl ⟨rfl, by omega, by omega⟩)), k1.2.2.2⟩
  obtain ⟨σ2, e2, f2⟩ := x_deathL (Ln := Ln) (show 5 ≤ d + 5 by omega) q0 61 0 _ _ k2 q1 (by omega) (by omega)
  rw [b_Seer_deathWithout, e1, Option.bind_some, minb_t p0 (by omega), cond_true, b_Seer_yearsToDeath, e2]
  exact ⟨σ2, rfl, frX_trans f1 (frX_trans (frX_up (by omega)) f2)⟩
theorem m_without {Ln : Nat} {σ : mmSt} {C : Cty} (h : rep 12 (cM (σ 96)) C) (w : WF 12 C) {q p : Int} (q0 : 0 ≤ q) (q1 : q < C 2 0) (p0 : 0 ≤ p) (p1 : p < C 0 0) {D : Nat} (hD : 6 ≤ D) : ∃ σ1 σ', srun (lyT Ln) (D, 193, 0, [mR 92, mJ], [], σ) = some (σ1, 0) ∧ srun (lyT Ln) (D, 208, 0, [mR 92, mI q, mJ], [], mup σ1 98 (Int.toNat (4 + p)) 0) = some (σ', dwC C q p) ∧ frM 98 σ σ' := by
  obtain ⟨d, rfl⟩ := Nat.exists_eq_add_of_le' hD
  have wf := w.1
  obtain ⟨σ1, e1, k1, f1⟩ := m_lay (Ln := Ln) h w (show 1 ≤ d + 6 by omega)
  have k2 : KM (mup σ1 98 (Int.toNat (4 + p)) 0) 98 (cup (zt C) 4 p 0) := ⟨k1.1, rep_upM (C := zt C) (f := 4) (i := p) (show C 1 0 ≤ 7 ∧ C 2 0 ≤ 5 by omega) (by omega) (by omega) p0 (show p < 7 by omega) k1.2.1, WF_upd k1.2.2 (.inr (.inl ⟨rfl, by omega, by omega⟩))⟩
  obtain ⟨σ2, e2, f2⟩ := m_deathL (Ln := Ln) (show 6 ≤ d + 6 by omega) q0 61 0 _ _ k2 q1 (by omega) (by omega)
  exact ⟨σ1, σ2, e1, by rw [b_M_diesBy, e2]; rfl, frM_trans f1 (frM_trans (frM_up (by omega)) f2)⟩
def worstL (C : Cty) (q : Int) : Nat → Int → Int → Int → Int × Int
  | 0, _, b, s => (b, s)
  | n + 1, p, b, s => bif decide (dwC C q p = -1000000) || decide (s ≤ dwC C q p) then worstL C q n (p + 1) b s else worstL C q n (p + 1) p (dwC C q p)
def wInv (C : Cty) (q b s : Int) : Prop := (b = -1000000 ∧ s = 61) ∨ (0 ≤ b ∧ b < C 0 0 ∧ s = dwC C q b ∧ 0 ≤ s ∧ s ≤ 60)
theorem worst_inv {C : Cty} {q : Int} : ∀ (n : Nat) (p b s : Int), p + n = C 0 0 → 0 ≤ p → wInv C q b s → wInv C q (worstL C q n p b s).1 (worstL C q n p b s).2 := by
  intro n
  induction n with
  | zero => intro p b s _ _ h; exact h
  | succ n ih =>
    intro p b s e p0 h
    rw [worstL]
    by_cases c : dwC C q p = -1000000
    · rw [decide_eq_true c]; exact ih (p + 1) b s (by omega) (by omega) h
    · rw [decide_eq_false c]
      have fi : dwC C q p = -1000000 ∨ (0 ≤ dwC C q p ∧ dwC C q p < 0 + (61 : Nat)) := find_in 61 0 _
      by_cases c2 : s ≤ dwC C q p
      · rw [decide_eq_true c2]; exact ih (p + 1) b s (by omega) (by omega) h
      · rw [decide_eq_false c2]; exact ih (p + 1) p _ (by omega) (by omega) (.inr ⟨p0, by omega, rfl, by omega, by omega⟩)
theorem x_worstL {Ln : Nat} {C : Cty} (w : WF 12 C) {q : Int} (q0 : 0 ≤ q) (q1 : q < C 2 0) (hd : deadB C q = false) {D : Nat} (hD : 7 ≤ D) : ∀ (n : Nat) (p b s : Int) (σ : mmSt) (v : mmV), rep 12 (cX σ 48) C → p + n = C 0 0 → 0 ≤ p → ∃ σ', srun (lyT Ln) (D, 90, 6, [mR 47, mI q, mI b, mI s, mI p, v], [], σ) = some (σ', (worstL C q n p b s).1) ∧ frX 58 σ σ' := by
  obtain ⟨d, rfl⟩ := Nat.exists_eq_add_of_le' hD
  have wf := w.1
  intro n
  induction n with
  | zero =>
    intro p b s σ v h e p0
    rw [b_Seer_worstLoss_6, x0 h, decide_eq_true (by omega)]
    exact ⟨σ, rfl, frX_rfl _ _⟩
  | succ n ih =>
    intro p b s σ v h e p0
    obtain ⟨σ1, e1, f1⟩ := x_without (Ln := Ln) h w q0 q1 p0 (show p < C 0 0 by omega) (show 6 ≤ d + 6 by omega)
    have h1 : rep 12 (cX σ1 48) C := rep_X48 (fun b j _ _ => f1 b j (by omega)) h
    rw [b_Seer_worstLoss_6, x0 h, decide_eq_false (by omega), cond_false, x_dead ⟨c48, h, w⟩ (by omega) q0 q1, Option.bind_some, hd]
    simp only [e1, Option.bind_some, mw (show -2147483648 ≤ p + 1 by omega) (show p + 1 < 2147483648 by omega)]
    rw [worstL]
    obtain ⟨σ2, e2, f2⟩ := ih (p + 1) b s σ1 (mI (dwC C q p)) h1 (by omega) (by omega)
    obtain ⟨σ3, e3, f3⟩ := ih (p + 1) p (dwC C q p) σ1 (mI (dwC C q p)) h1 (by omega) (by omega)
    cases decide (dwC C q p = -1000000) <;> cases decide (s ≤ dwC C q p)
    · exact ⟨σ3, e3, frX_trans f1 f3⟩
    · exact ⟨σ2, e2, frX_trans f1 f2⟩
    · exact ⟨σ2, e2, frX_trans f1 f2⟩
    · exact ⟨σ2, e2, frX_trans f1 f2⟩
theorem m_worstL {Ln : Nat} {C : Cty} (w : WF 12 C) {q x : Int} (q0 : 0 ≤ q) (q1 : q < C 2 0) (hd : deadB C q = false) {D : Nat} (hD : 7 ≤ D) : ∀ (n : Nat) (p b s t : Int) (σ : mmSt) (v u : mmV), rep 12 (cM (σ 96)) C → p + n = C 0 0 → 0 ≤ p → wInv C q b s → t = (if b = -1000000 then -1000000 else s) → ∃ σ', srun (lyT Ln) (D, 215, 21, [mR 92, mI q, mI x, mI b, mI t, mI p, v, u], [], σ) = some (σ', if x = 0 then (worstL C q n p b s).1 else if (worstL C q n p b s).1 = -1000000 then -1000000 else (worstL C q n p b s).2) ∧ frM 98 σ σ' := by
  obtain ⟨d, rfl⟩ := Nat.exists_eq_add_of_le' hD
  have wf := w.1
  intro n
  induction n with
  | zero =>
    intro p b s t σ v u h e p0 wi ht
    rw [b_M_starve_21, m0 h, decide_eq_true (by omega), cond_true]
    refine ⟨σ, ?_, frM_rfl _ _⟩
    show _ = some (σ, if x = 0 then b else if b = -1000000 then -1000000 else s)
    by_cases c : x = 0
    · rw [if_pos c, decide_eq_false (by omega)]; rfl
    · rw [if_neg c, decide_eq_true c, ht]; rfl
  | succ n ih =>
    intro p b s t σ v u h e p0 wi ht
    obtain ⟨σ0, σ1, e0, e1, f1⟩ := m_without (Ln := Ln) h w q0 q1 p0 (show p < C 0 0 by omega) (show 6 ≤ d + 6 by omega)
    have h1 : rep 12 (cM (σ1 96)) C := rep_M_of (fun j => f1 96 j (by omega)) h
    have fi : dwC C q p = -1000000 ∨ (0 ≤ dwC C q p ∧ dwC C q p < 0 + (61 : Nat)) := find_in 61 0 _
    rw [b_M_starve_21, m0 h, decide_eq_false (by omega), cond_false, m_alive ⟨.inl rfl, h, w⟩ (by omega) q0 q1, Option.bind_some, hd]
    simp only [dec0, Bool.not_false, Bool.not_true, cond_false, e0, Option.bind_some, mw (show -2147483648 ≤ 4 + p by omega) (show 4 + p < 2147483648 by omega), minb_t (show 0 ≤ 4 + p by omega) (show 4 + p < ((52 : Nat) : Int) by omega), cond_true, e1, mw (show -2147483648 ≤ p + 1 by omega) (show p + 1 < 2147483648 by omega)]
    rw [worstL]
    by_cases c : dwC C q p = -1000000
    · rw [decide_eq_true c]
      obtain ⟨σ2, e2, f2⟩ := ih (p + 1) b s t σ1 (mI (dwC C q p)) (mI 0) h1 (by omega) (by omega) wi ht
      exact ⟨σ2, e2, frM_trans f1 f2⟩
    · rw [decide_eq_false c, cond_false]
      by_cases cb : b = -1000000
      · have s61 : s = 61 := by unfold wInv at wi; omega
        rw [decide_eq_true cb, cond_true, decide_eq_false (show ¬ s ≤ dwC C q p by omega)]
        obtain ⟨σ2, e2, f2⟩ := ih (p + 1) p (dwC C q p) (dwC C q p) σ1 (mI (dwC C q p)) (mI 1) h1 (by omega) (by omega) (.inr ⟨p0, by omega, rfl, by omega, by omega⟩) (by rw [if_neg (by omega)])
        exact ⟨σ2, e2, frM_trans f1 f2⟩
      · rw [if_neg cb] at ht
        rw [decide_eq_false cb, cond_false, ht]
        by_cases c2 : s ≤ dwC C q p
        · rw [decide_eq_true c2]
          obtain ⟨σ2, e2, f2⟩ := ih (p + 1) b s s σ1 (mI (dwC C q p)) (mI 0) h1 (by omega) (by omega) wi (by rw [if_neg cb])
          exact ⟨σ2, e2, frM_trans f1 f2⟩
        · rw [decide_eq_false c2]
          obtain ⟨σ2, e2, f2⟩ := ih (p + 1) p (dwC C q p) (dwC C q p) σ1 (mI (dwC C q p)) (mI 1) h1 (by omega) (by omega) (.inr ⟨p0, by omega, rfl, by omega, by omega⟩) (by rw [if_neg (by omega)])
          exact ⟨σ2, e2, frM_trans f1 f2⟩
def starC (C : Cty) (q x : Int) : Int := bif deadB C q then -1000000 else (if x = 0 then (worstL C q (Int.toNat (C 0 0)) 0 (-1000000) 61).1 else if (worstL C q (Int.toNat (C 0 0)) 0 (-1000000) 61).1 = -1000000 then -1000000 else (worstL C q (Int.toNat (C 0 0)) 0 (-1000000) 61).2)
theorem k_130 (Ln : Nat) : ck_130 Rel Ln := fun q x _ _ => cok_v (fun C => bif inB q (C 2 0) && btB 0 x 1 then starC C q x else -1000001)
  (fun σ C ⟨h, _, hc⟩ => by
    have b := now_b hc
    rw [b_X_starve, x_isQuarrel c48 h (by omega) (by omega) (by omega)]
    simp only [Option.bind_some, dec0, dec1, x_within (show 1 ≤ 98 by omega)]
    cases hq : inB q (C 2 0)
    · exact ⟨σ, rfl, quiet_rfl _⟩
    · cases hn : btB 0 x 1
      · exact ⟨σ, rfl, quiet_rfl _⟩
      · have q1 := inB_t hq
        have G := now_q hc hq
        have w := good_W G
        have wf := w.1
        simp only [Bool.not_true, cond_false, cond_true]
        rw [b_Seer_worstLoss]
        show ∃ σ1, _ = some (σ1, starC C q x) ∧ _
        unfold starC
        cases hd : deadB C q
        · obtain ⟨σ1, e1, f1⟩ := x_worstL (Ln := Ln) w q1.1 q1.2 hd (show 7 ≤ 98 by omega) (Int.toNat (C 0 0)) 0 (-1000000) 61 σ mJ h (by omega) (by omega)
          have h1 : rep 12 (cX σ1 48) C := rep_X48 (fun b j _ _ => f1 b j (by omega)) h
          have wi := worst_inv (C := C) (q := q) (Int.toNat (C 0 0)) 0 (-1000000) 61 (by omega) (by omega) (.inl ⟨rfl, rfl⟩)
          rw [e1]
          simp only [Option.bind_some, cond_false]
          by_cases c : x = 0
          · rw [decide_eq_true c, if_pos c]; exact ⟨σ1, rfl, fr_quiet f1⟩
          · rw [decide_eq_false c, if_neg c, cond_false]
            by_cases cb : (worstL C q (Int.toNat (C 0 0)) 0 (-1000000) 61).1 = -1000000
            · rw [decide_eq_false (by omega), if_pos cb, cb]; exact ⟨σ1, rfl, fr_quiet f1⟩
            · rw [decide_eq_true cb, if_neg cb, cond_true]
              have wi' : 0 ≤ (worstL C q (Int.toNat (C 0 0)) 0 (-1000000) 61).1 ∧ (worstL C q (Int.toNat (C 0 0)) 0 (-1000000) 61).1 < C 0 0 ∧ (worstL C q (Int.toNat (C 0 0)) 0 (-1000000) 61).2 = dwC C q (worstL C q (Int.toNat (C 0 0)) 0 (-1000000) 61).1 := by
                rcases wi with wi | wi
                · exact absurd wi.1 cb
                · exact ⟨wi.1, wi.2.1, wi.2.2.1⟩
              obtain ⟨σ2, e2, f2⟩ := x_without (Ln := Ln) h1 w q1.1 q1.2 wi'.1 wi'.2.1 (show 6 ≤ 98 by omega)
              rw [e2, wi'.2.2]
              exact ⟨σ2, rfl, fr_quiet (frX_trans f1 f2)⟩
        · rw [b_Seer_worstLoss_6, x0 h, decide_eq_false (by omega), cond_false, x_dead ⟨c48, h, w⟩ (by omega) q1.1 q1.2, Option.bind_some, hd]
          refine ⟨σ, ?_, quiet_rfl _⟩
          by_cases c : x = 0
          · rw [decide_eq_true c]; rfl
          · rw [decide_eq_false c]; rfl)
  (fun σ C ⟨_, h, hc⟩ => by
    have b := now_b hc
    have h := thr h
    rw [b_M_starve, m_isQuarrel h (by omega) (by omega) (by omega)]
    simp only [Option.bind_some, dec0, dec1, m_in (show 1 ≤ 98 by omega)]
    cases hq : inB q (C 2 0)
    · exact ⟨_, rfl, q0⟩
    · cases hn : btB 0 x 1
      · exact ⟨_, rfl, q0⟩
      · have q1 := inB_t hq
        have G := now_q hc hq
        have w := good_W G
        have wf := w.1
        simp only [Bool.not_true, cond_false, cond_true]
        show ∃ σ1, _ = some (σ1, starC C q x) ∧ _
        unfold starC
        cases hd : deadB C q
        · obtain ⟨σ1, e1, f1⟩ := m_worstL (Ln := Ln) (x := x) w q1.1 q1.2 hd (show 7 ≤ 99 by omega) (Int.toNat (C 0 0)) 0 (-1000000) 61 (-1000000) _ mJ mJ h (by omega) (by omega) (.inl ⟨rfl, rfl⟩) (by rw [if_pos rfl])
          exact ⟨σ1, e1, quiet_trans q0 (frM_quiet f1)⟩
        · rw [b_M_starve_21, m0 h, decide_eq_false (by omega), cond_false, m_alive ⟨.inl rfl, h, w⟩ (by omega) q1.1 q1.2, Option.bind_some, hd]
          refine ⟨_, ?_, q0⟩
          by_cases c : x = 0
          · rw [decide_eq_false (show ¬ ¬ x = 0 by omega)]; rfl
          · rw [decide_eq_true c]; rfl)
