/-! drawn -/
theorem mwl {z : Int} (h0 : -9223372036854775808 ≤ z) (h1 : z < 9223372036854775808) : mwrapL z = z := by
  unfold mwrapL
  rw [Int.bmod_def]; omega
theorem mlc0 (x : Int) : decide (mlcmp x 0 = 0) = decide (x = 0) := by
  refine decide_eq_decide.mpr ?_
  unfold mlcmp
  split
  · omega
  · split <;> omega
theorem mlc_le (x y : Int) : decide (mlcmp x y ≤ 0) = decide (x ≤ y) := by
  refine decide_eq_decide.mpr ?_
  unfold mlcmp
  split
  · omega
  · split <;> omega
def nextX (x : Int) : Int := Int.tmod (x * 16807) 2147483647
def drawS (x : Int) (C : Cty) : Cty := bif decide (Int.tmod x 6 = 0) then cup (putC C (Int.tmod x (C 0 0)) (Int.tmod x 5)) 7 (Int.tmod x (C 1 0)) 0 else putC C (Int.tmod x (C 0 0)) (Int.tmod x 5)
def drawL : Nat → Int → Cty → Cty
  | 0, _, C => C
  | n + 1, x, C => drawL n (nextX x) (yearC (drawS (nextX x) C))
theorem next_in {x : Int} (x0 : 0 ≤ x) : 0 ≤ nextX x ∧ nextX x < 2147483647 := by
  unfold nextX
  exact ⟨Int.tmod_nonneg _ (by omega), Int.tmod_lt_of_pos _ (by omega)⟩
theorem tmod_in {x k : Int} (x0 : 0 ≤ x) (k0 : 0 < k) : 0 ≤ Int.tmod x k ∧ Int.tmod x k < k := ⟨Int.tmod_nonneg _ x0, Int.tmod_lt_of_pos _ k0⟩
theorem draw_nf {x : Int} {C : Cty} {f : Nat} {i : Int} (h4 : f ≠ 4) (h7 : f ≠ 7) : drawS x C f i = C f i := by
  unfold drawS
  cases decide (Int.tmod x 6 = 0)
  · exact put_nf _ _ _ h4
  · exact (cup_nf h7).trans (put_nf _ _ _ h4)
theorem x_drawL {Ln : Nat} {N sd : Int} (N1 : N ≤ 100) {D : Nat} (hD : 5 ≤ D) : ∀ (n : Nat) (z x : Int) (σ : mmSt) (C : Cty), KY 15 σ 58 C → z + n = N → 0 ≤ z → 0 ≤ x → x < 2147483647 → ∃ σ', srun (lyT Ln) (D, 104, 18, [mR 47, mI N, mI sd, mL x, mJ, mI z], [], σ) = some (σ', 0) ∧ KY 15 σ' 58 (drawL n x C) ∧ frX 58 σ σ' := by
  obtain ⟨d, rfl⟩ := Nat.exists_eq_add_of_le' hD
  intro n
  induction n with
  | zero =>
    intro z x σ C k e z0 xa xb
    rw [b_Seer_draw_18, decide_eq_true (by omega)]
    exact ⟨σ, rfl, k, frX_rfl _ _⟩
  | succ n ih =>
    intro z x σ C k e z0 xa xb
    have w := k.2.2.1.1
    have nx := next_in xa
    have t0 := tmod_in nx.1 (show 0 < C 0 0 by omega)
    have t1 := tmod_in nx.1 (show 0 < C 1 0 by omega)
    have t5 := tmod_in nx.1 (show (0 : Int) < 5 by omega)
    have kx := KY_X k
    obtain ⟨σ1, e1, k1, f1⟩ := x_put58 (Ln := Ln) k (show 1 ≤ d + 4 by omega) t0.1 (show Int.tmod (nextX x) (C 0 0) < 7 by omega) t5.1 (by omega)
    have h11 : σ1 58 1 = C 1 0 := (x1 (KY_X k1).2.1).trans (put_nf _ _ _ (by omega))
    rw [b_Seer_draw_18, decide_eq_false (show ¬ N ≤ z by omega), cond_false, mwl (by omega) (by omega), show Int.tmod (x * 16807) 2147483647 = nextX x from rfl, x0 kx.2.1, mw (z := Int.tmod (nextX x) (C 0 0)) (by omega) (by omega), mw (z := Int.tmod (nextX x) 5) (by omega) (by omega), e1, Option.bind_some, mw (z := z + 1) (by omega) (by omega), drawL]
    simp only [dne, mlc0, h11, decide_eq_false (show ¬ C 0 0 = 0 by omega), decide_eq_false (show ¬ C 1 0 = 0 by omega), decide_eq_false (show ¬ (2147483647 : Int) = 0 by omega), decide_eq_false (show ¬ (5 : Int) = 0 by omega), decide_eq_false (show ¬ (6 : Int) = 0 by omega), Bool.not_false, cond_true, mw (show -2147483648 ≤ Int.tmod (nextX x) (C 1 0) by omega) (by omega), minb_t t1.1 (show Int.tmod (nextX x) (C 1 0) < ((7 : Nat) : Int) by omega)]
    have hds : drawS (nextX x) C = bif decide (Int.tmod (nextX x) 6 = 0) then cup (putC C (Int.tmod (nextX x) (C 0 0)) (Int.tmod (nextX x) 5)) 7 (Int.tmod (nextX x) (C 1 0)) 0 else putC C (Int.tmod (nextX x) (C 0 0)) (Int.tmod (nextX x) 5) := rfl
    cases hc : decide (Int.tmod (nextX x) 6 = 0)
    · rw [hc] at hds
      obtain ⟨σ2, e2, k2, f2⟩ := x_year (Ln := Ln) k1 (show 4 ≤ d + 4 by omega)
      obtain ⟨σ3, e3, k3, f3⟩ := ih (z + 1) (nextX x) σ2 _ k2 (by omega) (by omega) nx.1 nx.2
      rw [hds]
      simp only [Bool.not_false, cond_true, e2, Option.bind_some]
      exact ⟨σ3, e3, k3, frX_trans f1 (frX_trans f2 f3)⟩
    · rw [hc] at hds
      have k1' : KY 15 (mup σ1 62 (Int.toNat (Int.tmod (nextX x) (C 1 0))) 0) 58 (cup (putC C (Int.tmod (nextX x) (C 0 0)) (Int.tmod (nextX x) 5)) 7 (Int.tmod (nextX x) (C 1 0)) 0) := ⟨k1.1, rep_upX (f := 7) (by omega) (by omega) t1.1 (fun _ => rfl) k1.2.1, WF_upd k1.2.2.1 (.inr (.inr (.inl ⟨rfl, by omega, by omega⟩))), k1.2.2.2⟩
      obtain ⟨σ2, e2, k2, f2⟩ := x_year (Ln := Ln) k1' (show 4 ≤ d + 4 by omega)
      obtain ⟨σ3, e3, k3, f3⟩ := ih (z + 1) (nextX x) σ2 _ k2 (by omega) (by omega) nx.1 nx.2
      rw [hds]
      simp only [Bool.not_true, cond_false, cond_true, e2, Option.bind_some]
      exact ⟨σ3, e3, k3, frX_trans f1 (frX_trans (frX_up (by omega)) (frX_trans f2 f3))⟩
theorem m_drawL {Ln : Nat} {N sd w : Int} (N1 : N ≤ 100) : ∀ (n : Nat) (z x o : Int) (σ : mmSt) (C : Cty), KM σ 98 C → tv C → o = C 14 0 → z + n = N → 0 ≤ z → 0 ≤ x → x < 2147483647 → ∃ σ', srun (lyT Ln) (99, 227, 37, [mR 92, mI N, mI sd, mI w, mL x, mJ, mI o, mI z], [], σ) = some (σ', if w = 0 then cntL (fun q => !deadB (drawL n x C) q) (Int.toNat (drawL n x C 2 0)) 0 0 else drawL n x C 14 0) ∧ frM 98 σ σ' := by
  intro n
  induction n with
  | zero =>
    intro z x o σ C k t ho e z0 xa xb
    rw [b_M_drawn_37, decide_eq_true (by omega), cond_true, m_living k (by omega)]
    refine ⟨σ, ?_, frM_rfl _ _⟩
    by_cases c : w = 0
    · rw [if_pos c, decide_eq_false (by omega)]; rfl
    · rw [if_neg c, decide_eq_true c, ho]; rfl
  | succ n ih =>
    intro z x o σ C k t ho e z0 xa xb
    have wf := k.2.2.1
    have nx := next_in xa
    have t0 := tmod_in nx.1 (show 0 < C 0 0 by omega)
    have t1 := tmod_in nx.1 (show 0 < C 1 0 by omega)
    have t5 := tmod_in nx.1 (show (0 : Int) < 5 by omega)
    obtain ⟨σ1, e1, k1, f1⟩ := m_puts (Ln := Ln) k (show 1 ≤ 98 by omega) t0.1 (show Int.tmod (nextX x) (C 0 0) < 7 by omega) t5.1 (by omega)
    have h11 : σ1 98 1 = C 1 0 := (m1 k1.2.1).trans (put_nf _ _ _ (by omega))
    rw [b_M_drawn_37, decide_eq_false (show ¬ N ≤ z by omega), cond_false, mwl (by omega) (by omega), show Int.tmod (x * 16807) 2147483647 = nextX x from rfl, m0 k.2.1, mw (z := Int.tmod (nextX x) (C 0 0)) (by omega) (by omega), mw (z := Int.tmod (nextX x) 5) (by omega) (by omega), e1, Option.bind_some, mw (z := z + 1) (by omega) (by omega), drawL]
    simp (discharger := omega) only [dne, mlc0, h11, decide_eq_false (show ¬ C 0 0 = 0 by omega), decide_eq_false (show ¬ C 1 0 = 0 by omega), decide_eq_false (show ¬ (2147483647 : Int) = 0 by omega), decide_eq_false (show ¬ (5 : Int) = 0 by omega), decide_eq_false (show ¬ (6 : Int) = 0 by omega), Bool.not_false, cond_true, mw (show -2147483648 ≤ Int.tmod (nextX x) (C 1 0) by omega) (show Int.tmod (nextX x) (C 1 0) < 2147483648 by omega), mw (show -2147483648 ≤ 3 * Int.tmod (nextX x) (C 1 0) by omega) (show 3 * Int.tmod (nextX x) (C 1 0) < 2147483648 by omega), mw (show -2147483648 ≤ 11 + 3 * Int.tmod (nextX x) (C 1 0) by omega) (show 11 + 3 * Int.tmod (nextX x) (C 1 0) < 2147483648 by omega), mw (show -2147483648 ≤ 11 + 3 * Int.tmod (nextX x) (C 1 0) + 2 by omega) (show 11 + 3 * Int.tmod (nextX x) (C 1 0) + 2 < 2147483648 by omega), minb_t]
    have hds : drawS (nextX x) C = bif decide (Int.tmod (nextX x) 6 = 0) then cup (putC C (Int.tmod (nextX x) (C 0 0)) (Int.tmod (nextX x) 5)) 7 (Int.tmod (nextX x) (C 1 0)) 0 else putC C (Int.tmod (nextX x) (C 0 0)) (Int.tmod (nextX x) 5) := rfl
    have td : ∀ E : Cty, (∀ f i, 12 ≤ f → E f i = C f i) → tv E := fun E h => ⟨by rw [h 13 0 (by omega)]; exact t.1, by rw [h 14 0 (by omega)]; exact t.2.1, fun j j0 j1 => by rw [h 12 j (by omega)]; exact t.2.2 j j0 j1⟩
    cases hc : decide (Int.tmod (nextX x) 6 = 0)
    · rw [hc] at hds
      obtain ⟨σ2, e2, k2, f2, g2⟩ := m_year (Ln := Ln) k1 (show 5 ≤ 98 by omega)
      have g3 := g2 (td _ (fun f i hf => put_nf _ _ _ (by omega)))
      obtain ⟨σ3, e3, f3⟩ := ih (z + 1) (nextX x) (mwrap (o + σ2 92 21)) σ2 _ k2 g3.2 (by rw [g3.1.2.1.2.2, ho, put_nf _ _ _ (by omega)]) (by omega) (by omega) nx.1 nx.2
      rw [hds]
      simp only [Bool.not_false, cond_true, e2, Option.bind_some]
      exact ⟨σ3, e3, frM_trans f1 (frM_trans f2 f3)⟩
    · rw [hc] at hds
      have k1' : KM (mup σ1 98 (Int.toNat (11 + 3 * Int.tmod (nextX x) (C 1 0) + 2)) 0) 98 (cup (putC C (Int.tmod (nextX x) (C 0 0)) (Int.tmod (nextX x) 5)) 7 (Int.tmod (nextX x) (C 1 0)) 0) := ⟨k1.1, rep_upM (C := putC C (Int.tmod (nextX x) (C 0 0)) (Int.tmod (nextX x) 5)) (f := 7) (i := Int.tmod (nextX x) (C 1 0)) (by rw [put_nf _ _ _ (by omega), put_nf _ _ _ (by omega)]; omega) (by omega) (by omega) t1.1 (by show Int.tmod (nextX x) (C 1 0) < putC C (Int.tmod (nextX x) (C 0 0)) (Int.tmod (nextX x) 5) 1 0; rw [put_nf _ _ _ (by omega)]; exact t1.2) k1.2.1, WF_upd k1.2.2 (.inr (.inr (.inl ⟨rfl, by omega, by omega⟩)))⟩
      obtain ⟨σ2, e2, k2, f2, g2⟩ := m_year (Ln := Ln) k1' (show 5 ≤ 98 by omega)
      have g3 := g2 (td _ (fun f i hf => (cup_nf (by omega)).trans (put_nf _ _ _ (by omega))))
      obtain ⟨σ3, e3, f3⟩ := ih (z + 1) (nextX x) (mwrap (o + σ2 92 21)) σ2 _ k2 g3.2 (by rw [g3.1.2.1.2.2, ho, cup_nf (by omega), put_nf _ _ _ (by omega)]) (by omega) (by omega) nx.1 nx.2
      rw [hds]
      simp only [Bool.not_true, cond_false, cond_true, e2, Option.bind_some]
      exact ⟨σ3, e3, frM_trans f1 (frM_trans (frM_up (by omega)) (frM_trans f2 f3))⟩
def drawC (C : Cty) (n x w : Int) : Int := if w = 0 then cntL (fun q => !deadB (drawL (Int.toNat n) x (zt C)) q) (Int.toNat (drawL (Int.toNat n) x (zt C) 2 0)) 0 0 else drawL (Int.toNat n) x (zt C) 14 0
theorem k_139 (Ln : Nat) : ck_139 Rel Ln := fun n x w _ _ _ => cok_v (fun C => bif decide (0 < C 0 0) then (bif btB 0 n 60 && (btB 1 x 999999 && btB 0 w 1) then drawC C n x w else -1000001) else -1000002)
  (fun σ C ⟨h, _, hc⟩ => by
    rw [b_X_drawn, x_isTold c48 h (by omega)]
    simp only [Option.bind_some, dec0, dec1, x_within (show 1 ≤ 98 by omega)]
    cases hq : decide (0 < C 0 0)
    · exact ⟨σ, rfl, quiet_rfl _⟩
    cases hn : btB 0 n 60
    · exact ⟨σ, rfl, quiet_rfl _⟩
    cases hx : btB 1 x 999999
    · exact ⟨σ, rfl, quiet_rfl _⟩
    cases hw : btB 0 w 1
    · exact ⟨σ, rfl, quiet_rfl _⟩
    have n1 := btB_t hn
    have x1' := btB_t hx
    have wf := good_W (now_t hc hq)
    have w1 := wf.1
    obtain ⟨σ1, e1, k1, f1⟩ := x_begin (Ln := Ln) h wf (show 2 ≤ 97 by omega)
    obtain ⟨σ2, e2, k2, f2⟩ := x_drawL (Ln := Ln) (N := n) (sd := x) (by omega) (show 5 ≤ 98 by omega) (Int.toNat n) 0 x σ1 (zt C) k1 (by omega) (by omega) (by omega) (by omega)
    simp only [Bool.not_true, cond_false, cond_true]
    rw [b_Seer_draw, e1, Option.bind_some]
    have a0 : σ1 58 0 = C 0 0 := (x0 (KY_X k1).2.1 : _ = zt C 0 0)
    have a1 : σ1 58 1 = C 1 0 := (x1 (KY_X k1).2.1 : _ = zt C 1 0)
    simp only [a0, a1, decide_eq_false (show ¬ C 0 0 < 1 by omega), decide_eq_true (show 1 ≤ C 1 0 by omega), cond_false, cond_true, e2, Option.bind_some, x14 k2.2.1, x_living (KY_X k2) (show 2 ≤ 98 by omega)]
    refine ⟨σ2, ?_, fr_quiet (frX_trans f1 f2)⟩
    unfold drawC
    by_cases c : w = 0
    · rw [if_pos c, decide_eq_false (by omega)]; rfl
    · rw [if_neg c, decide_eq_true c]; rfl)
  (fun σ C ⟨_, h, hc⟩ => by
    have h := thr h
    rw [b_M_drawn, m_isThere h (by omega)]
    simp only [Option.bind_some, dec0, dec1, m_in (show 1 ≤ 98 by omega)]
    cases hq : decide (0 < C 0 0)
    · exact ⟨_, rfl, q0⟩
    cases hn : btB 0 n 60
    · exact ⟨_, rfl, q0⟩
    cases hx : btB 1 x 999999
    · exact ⟨_, rfl, q0⟩
    cases hw : btB 0 w 1
    · exact ⟨_, rfl, q0⟩
    have n1 := btB_t hn
    have x1' := btB_t hx
    have wf := good_W (now_t hc hq)
    obtain ⟨σ1, e1, k1, f1⟩ := m_lay (Ln := Ln) h wf (show 1 ≤ 98 by omega)
    obtain ⟨σ2, e2, f2⟩ := m_drawL (Ln := Ln) (N := n) (sd := x) (w := w) (by omega) (Int.toNat n) 0 x 0 σ1 (zt C) k1 (tv_zt C) rfl (by omega) (by omega) (by omega) (by omega)
    simp only [Bool.not_true, cond_false, cond_true, e1, Option.bind_some]
    exact ⟨σ2, e2, quiet_trans q0 (frM_quiet (frM_trans f1 f2))⟩)
