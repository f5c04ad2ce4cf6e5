/-! easy calls -/
theorem k_112 (Ln : Nat) : ck_112 Rel Ln := cok_of (fun σ C hR _ _ =>
  ⟨_, _, b_X_fault Ln 98 σ, quiet_rfl _, fun τ hτ => ⟨_, (b_M_fault Ln 98 τ).trans (by
    have e1 : τ 92 18 = σ 92 18 := hτ 92 18 (by unfold scr; omega)
    have e2 : σ 9 2 = σ 92 18 := hR.2.1.2.2.2.2
    show some (mup τ 92 0 0, τ 92 18) = _
    rw [e1, e2]), q0⟩⟩)
theorem k_147 (Ln : Nat) : ck_147 Rel Ln := cok_of (fun σ C hR _ _ =>
  ⟨_, _, b_X_status Ln 98 σ, quiet_rfl _, fun τ hτ => ⟨_, (b_M_status Ln 98 τ).trans (by
    have e1 : τ 92 1 = σ 92 1 := hτ 92 1 (by unfold scr; omega)
    have e2 : σ 4 7 = σ 92 1 := hR.2.2.1.1
    show some (mup τ 92 0 0, τ 92 1) = _
    rw [e1, e2]), q0⟩⟩)
theorem k_142 (Ln : Nat) : ck_142 Rel Ln := fun q _ => cok_v (fun C => bif inB q (C 2 0) then C 8 q else -1000001)
  (fun σ C ⟨h, _, hc⟩ => by
    have b := now_b hc
    rw [b_X_kind, x_isQuarrel c48 h (by omega) (by omega) (by omega), Option.bind_some]
    simp only [dec0]
    cases hq : inB q (C 2 0)
    · exact ⟨σ, rfl, quiet_rfl _⟩
    · have q1 := inB_t hq
      rw [minb_t q1.1 (by omega), show σ 53 (Int.toNat q) = C 8 q from x8 h q q1.1 q1.2]
      exact ⟨σ, rfl, quiet_rfl _⟩)
  (fun σ C ⟨_, h, hc⟩ => by
    have b := now_b hc
    have h := thr h
    rw [b_M_kind, m_isQuarrel h (by omega) (by omega) (by omega), Option.bind_some]
    simp only [dec0]
    cases hq : inB q (C 2 0)
    · exact ⟨_, rfl, q0⟩
    · have q1 := inB_t hq
      rw [Bool.not_true, cond_false, m_of0 (good_M h (now_q hc hq)) (by omega) q1.1 q1.2]
      exact ⟨_, rfl, q0⟩)
theorem k_120 (Ln : Nat) : ck_120 Rel Ln := fun r w _ _ => cok_v (fun C => bif inB r (C 1 0) && btB 0 w 2 then (if w = 0 then C 5 r else if w = 1 then C 6 r else C 7 r) else -1000001)
  (fun σ C ⟨h, _, hc⟩ => by
    have b := now_b hc
    rw [b_X_road, x_isRoad c48 h (by omega) (by omega) (by omega), Option.bind_some]
    simp only [dec1]
    cases hq : inB r (C 1 0)
    · exact ⟨σ, rfl, quiet_rfl _⟩
    · have q1 := inB_t hq
      rw [minb_t q1.1 (by omega), show σ 50 (Int.toNat r) = C 5 r from x5 h r q1.1 q1.2, show σ 51 (Int.toNat r) = C 6 r from x6 h r q1.1 q1.2, show σ 52 (Int.toNat r) = C 7 r from x7 h r q1.1 q1.2]
      refine ⟨σ, ?_, quiet_rfl _⟩
      unfold btB
      by_cases w0 : w = 0
      · subst w0; rfl
      · by_cases w1 : w = 1
        · subst w1; rfl
        · by_cases w2 : w = 2
          · subst w2; rfl
          · have : (decide (0 ≤ w) && decide (w ≤ 2)) = false := by
              by_cases a : 0 ≤ w <;> by_cases c : w ≤ 2 <;> simp [a, c] <;> omega
            simp [w0, w1, w2, this])
  (fun σ C ⟨_, h, hc⟩ => by
    have b := now_b hc
    have h := thr h
    rw [b_M_road, m_isRoad h (by omega) (by omega) (by omega), Option.bind_some]
    simp only [dec0]
    cases hq : inB r (C 1 0)
    · exact ⟨_, rfl, q0⟩
    · have q1 := inB_t hq
      have k := good_M h (now_r hc hq)
      rw [Bool.not_true, cond_false, m_in (by omega), Option.bind_some]
      simp only [dec0]
      cases hw : btB 0 w 2
      · exact ⟨_, rfl, q0⟩
      · have w1 := btB_t hw
        refine ⟨_, ?_, q0⟩
        rw [Bool.not_true, cond_false]
        have : w = 0 ∨ w = 1 ∨ w = 2 := by omega
        rcases this with rfl | rfl | rfl
        · rw [m_its0 k (by omega) q1.1 q1.2]; rfl
        · rw [m_its1 k (by omega) q1.1 q1.2]; rfl
        · rw [m_its2 k (by omega) q1.1 q1.2]; rfl)
theorem m_quL {Ln : Nat} {σ : mmSt} {C : Cty} (k : KM σ 96 C) {D : Nat} (hD : 5 ≤ D) {q w : Int} (q0 : 0 ≤ q) (q1 : q < C 2 0) (w0 : 0 ≤ w) (w1 : w ≤ 4) : ∀ (n : Nat) (i s : Int), i + n = C 1 0 → 0 ≤ i → vI s → srun (lyT Ln) (D, 203, 19, [mR 92, mI q, mI w, mI s, mI i], [], σ) = some (σ, if w = 0 then C 9 q else if w = 1 then C 10 q else if w = 2 then C 11 q else if w = 3 then setL (openB C q) n i s else goesC C q) := by
  obtain ⟨d, rfl⟩ := Nat.exists_eq_add_of_le' hD
  have wf := k.2.2.1
  intro n
  induction n with
  | zero =>
    intro i s e h0 vs
    rw [b_M_quarrel_19, m1 k.2.1, decide_eq_true (by omega), cond_true]
    have : w = 0 ∨ w = 1 ∨ w = 2 ∨ w = 3 ∨ w = 4 := by omega
    rcases this with rfl | rfl | rfl | rfl | rfl
    · rw [show mwrap (1 + 0) = 1 by rfl, m_of1 k (by omega) q0 q1]; rfl
    · rw [show mwrap (1 + 1) = 2 by rfl, m_of2 k (by omega) q0 q1]; rfl
    · rw [show mwrap (1 + 2) = 3 by rfl, m_of3 k (by omega) q0 q1]; rfl
    · rfl
    · rw [m_goes k (by omega) q0 q1]; rfl
  | succ n ih =>
    intro i s e h0 vs
    rw [b_M_quarrel_19, m1 k.2.1, decide_eq_false (by omega), cond_false, m_alive k (by omega) q0 q1, Option.bind_some, mw (z := i + 1) (by omega) (by omega), mor_0 vs, setL]
    simp only [dec0, m_of1 k (show 1 ≤ d + 4 by omega) q0 q1, Option.bind_some, m_beyond k (show 2 ≤ d + 4 by omega) h0 (show i < C 1 0 by omega), beyond_ne k.2.2 h0 (show i < C 1 0 by omega), m_cross k (show 2 ≤ d + 4 by omega) q0 q1 h0 (show i < C 1 0 by omega)]
    rw [ih (i + 1) s (by omega) (by omega) vs, ih (i + 1) (mor s (mshl 1 i)) (by omega) (by omega) (mor_v _ _)]
    unfold openB
    cases deadB C q <;> cases touchB C i (C 9 q) <;> cases crossB C q i <;> rfl
theorem k_119 (Ln : Nat) : ck_119 Rel Ln := fun q w _ _ => cok_v (fun C => bif inB q (C 2 0) && btB 0 w 4 then (if w = 0 then C 9 q else if w = 1 then C 10 q else if w = 2 then C 11 q else if w = 3 then setL (openB C q) (Int.toNat (C 1 0)) 0 0 else goesC C q) else -1000001)
  (fun σ C ⟨h, _, hc⟩ => by
    have b := now_b hc
    rw [b_X_quarrel, x_isQuarrel c48 h (by omega) (by omega) (by omega), Option.bind_some]
    simp only [dec1]
    cases hq : inB q (C 2 0)
    · exact ⟨σ, rfl, quiet_rfl _⟩
    · have q1 := inB_t hq
      have k := good_X h (now_q hc hq)
      rw [minb_t q1.1 (by omega), show σ 54 (Int.toNat q) = C 9 q from x9 h q q1.1 q1.2, show σ 55 (Int.toNat q) = C 10 q from x10 h q q1.1 q1.2, show σ 56 (Int.toNat q) = C 11 q from x11 h q q1.1 q1.2, x_open k (by omega) q1.1 q1.2, x_goes k (by omega) q1.1 q1.2]
      refine ⟨σ, ?_, quiet_rfl _⟩
      unfold btB
      by_cases w0 : w = 0
      · subst w0; rfl
      · by_cases w1 : w = 1
        · subst w1; rfl
        · by_cases w2 : w = 2
          · subst w2; rfl
          · by_cases w3 : w = 3
            · subst w3; rfl
            · by_cases w4 : w = 4
              · subst w4; rfl
              · have : (decide (0 ≤ w) && decide (w ≤ 4)) = false := by
                  by_cases a : 0 ≤ w <;> by_cases c : w ≤ 4 <;> simp [a, c] <;> omega
                simp [w0, w1, w2, w3, w4, this])
  (fun σ C ⟨_, h, hc⟩ => by
    have b := now_b hc
    have h := thr h
    rw [b_M_quarrel, m_isQuarrel h (by omega) (by omega) (by omega), Option.bind_some]
    simp only [dec0]
    cases hq : inB q (C 2 0)
    · exact ⟨_, rfl, q0⟩
    · have q1 := inB_t hq
      have k := good_M h (now_q hc hq)
      rw [Bool.not_true, cond_false, m_in (by omega), Option.bind_some]
      simp only [dec1]
      cases hw : btB 0 w 4
      · exact ⟨_, rfl, q0⟩
      · have w1 := btB_t hw
        exact ⟨_, m_quL k (by omega) q1.1 q1.2 w1.1 w1.2 (Int.toNat (C 1 0)) 0 0 (by omega) (by omega) v0, q0⟩)
theorem m_paL {Ln : Nat} {σ : mmSt} {C : Cty} (k : KM σ 96 C) {D : Nat} (hD : 4 ≤ D) {p w : Int} (p0 : 0 ≤ p) (p1 : p < C 0 0) (w0 : 0 ≤ w) (w1 : w ≤ 2) : ∀ (n : Nat) (i s : Int) (v5 : mmV), i + n = 7 → 0 ≤ i → vI s → srun (lyT Ln) (D, 205, 19, [mR 92, mI p, mI w, mI s, mI i, v5], [], σ) = some (σ, if w = 0 then C 4 p else if w = 1 then setL (fun j => decide (j < C 2 0) && livesB C j p) n i s else setL (fun j => decide (j < C 1 0) && touchB C j p) n i s) := by
  obtain ⟨d, rfl⟩ := Nat.exists_eq_add_of_le' hD
  have wf := k.2.2.1
  intro n
  induction n with
  | zero =>
    intro i s v5 e h0 vs
    rw [b_M_parish_19, decide_eq_true (show 7 ≤ i by omega), cond_true, mw (by omega) (by omega), minb_t (by omega) (by omega), m4 k.2.1 p p0 (by omega)]
    have : w = 0 ∨ w = 1 ∨ w = 2 := by omega
    rcases this with rfl | rfl | rfl <;> rfl
  | succ n ih =>
    intro i s v5 e h0 vs
    have ih0 := fun v => ih (i + 1) s v (by omega) (by omega) vs
    have ih1 := fun v => ih (i + 1) (mor s (mshl 1 i)) v (by omega) (by omega) (mor_v _ _)
    rw [b_M_parish_19, decide_eq_false (show ¬ 7 ≤ i by omega), cond_false, m1 k.2.1, m2 k.2.1, mw (z := i + 1) (by omega) (by omega), mor_0 vs, setL, setL]
    by_cases wc : w = 1
    · rw [decide_eq_false (show ¬ ¬ w = 1 by omega), cond_false]
      by_cases c : i < C 2 0
      · rw [decide_eq_false (show ¬ C 2 0 ≤ i by omega), cond_false, m_isIn k (by omega) h0 c, Option.bind_some]
        simp only [dec0, ih0, ih1, if_pos wc, if_neg (show ¬ w = 0 by omega), decide_eq_true c, Bool.true_and]
        cases livesB C i p <;> rfl
      · rw [decide_eq_true (show C 2 0 ≤ i by omega), cond_true, ih0, decide_eq_false c, if_pos wc, if_pos wc]
        rfl
    · rw [decide_eq_true wc, cond_true]
      by_cases c : i < C 1 0
      · rw [decide_eq_false (show ¬ C 1 0 ≤ i by omega), cond_false, m_beyond k (by omega) h0 c, Option.bind_some]
        simp only [beyond_ne k.2.2 h0 c, ih0, ih1, if_neg wc, decide_eq_true c, Bool.true_and]
        cases touchB C i p <;> rfl
      · rw [decide_eq_true (show C 1 0 ≤ i by omega), cond_true, ih0, decide_eq_false c, if_neg wc, if_neg wc]
        rfl
theorem setL_cut {P : Int → Bool} {m : Int} (h0 : 0 ≤ m) (h7 : m ≤ 7) (s : Int) : setL (fun j => decide (j < m) && P j) 7 0 s = setL P (Int.toNat m) 0 s := by
  rw [show 7 = Int.toNat m + (7 - Int.toNat m) by omega, setL_add, setL_no]
  · refine setL_cg _ _ _ (fun j a b => ?_)
    rw [decide_eq_true (by omega), Bool.true_and]
  · intro j a b
    rw [decide_eq_false (by omega), Bool.false_and]
theorem k_121 (Ln : Nat) : ck_121 Rel Ln := fun p w _ _ => cok_v (fun C => bif inB p (C 0 0) && btB 0 w 2 then (if w = 0 then C 4 p else if w = 1 then setL (fun q => livesB C q p) (Int.toNat (C 2 0)) 0 0 else setL (fun r => touchB C r p) (Int.toNat (C 1 0)) 0 0) else -1000001)
  (fun σ C ⟨h, _, hc⟩ => by
    have b := now_b hc
    rw [b_X_parish, x_isParish c48 h (by omega) (by omega) (by omega), Option.bind_some]
    simp only [dec1]
    cases hq : inB p (C 0 0)
    · exact ⟨σ, rfl, quiet_rfl _⟩
    · have q1 := inB_t hq
      have k := good_X h (now_p hc hq)
      rw [minb_t q1.1 (by omega), show σ 49 (Int.toNat p) = C 4 p from x4 h p q1.1 (by omega), x_livingIn k (by omega), x_roadsAt k (by omega)]
      refine ⟨σ, ?_, quiet_rfl _⟩
      unfold btB
      by_cases w0 : w = 0
      · subst w0; rfl
      · by_cases w1 : w = 1
        · subst w1; rfl
        · by_cases w2 : w = 2
          · subst w2; rfl
          · have : (decide (0 ≤ w) && decide (w ≤ 2)) = false := by
              by_cases a : 0 ≤ w <;> by_cases c : w ≤ 2 <;> simp [a, c] <;> omega
            simp [w0, w1, w2, this])
  (fun σ C ⟨_, h, hc⟩ => by
    have b := now_b hc
    have h := thr h
    rw [b_M_parish, m_isParish h (by omega) (by omega) (by omega), Option.bind_some]
    simp only [dec0]
    cases hq : inB p (C 0 0)
    · exact ⟨_, rfl, q0⟩
    · have q1 := inB_t hq
      have k := good_M h (now_p hc hq)
      rw [Bool.not_true, cond_false, m_in (by omega), Option.bind_some]
      simp only [dec1]
      cases hw : btB 0 w 2
      · exact ⟨_, rfl, q0⟩
      · have w1 := btB_t hw
        refine ⟨_, (m_paL k (by omega) q1.1 q1.2 w1.1 w1.2 7 0 0 mJ (by omega) (by omega) v0).trans ?_, q0⟩
        rw [setL_cut (by omega) (by omega), setL_cut (by omega) (by omega)]
        rfl)
theorem k_133 (Ln : Nat) : ck_133 Rel Ln := cok_v (fun C => bif decide (0 < C 0 0) then setL (fun q => livesB C q (C 11 q)) (Int.toNat (C 2 0)) 0 0 else -1000002)
  (fun σ C ⟨h, _, hc⟩ => by
    rw [b_X_home, x_isTold c48 h (by omega), Option.bind_some]
    simp only [dec1]
    cases hq : decide (0 < C 0 0)
    · exact ⟨σ, rfl, quiet_rfl _⟩
    · have k := good_X h (now_t hc hq)
      rw [cond_true, x_brands k (by omega)]
      exact ⟨σ, rfl, quiet_rfl _⟩)
  (fun σ C ⟨_, h, hc⟩ => by
    have b := now_b hc
    have h := thr h
    rw [b_M_home, m_isThere h (by omega), Option.bind_some]
    simp only [dec1]
    cases hq : decide (0 < C 0 0)
    · exact ⟨_, rfl, q0⟩
    · have k := good_M h (now_t hc hq)
      rw [cond_true]
      have L : ∀ (n : Nat) (i s : Int), i + n = C 2 0 → 0 ≤ i → vI s → srun (lyT Ln) (99, 219, 12, [mR 92, mI s, mI i], [], mup σ 92 0 0) = some (mup σ 92 0 0, setL (fun q => livesB C q (C 11 q)) n i s) := by
        intro n
        induction n with
        | zero => intro i s e h0 _; rw [b_M_home_12, m2 k.2.1, decide_eq_true (by omega)]; rfl
        | succ n ih =>
          intro i s e h0 vs
          rw [b_M_home_12, m2 k.2.1, decide_eq_false (by omega), cond_false, m_of3 k (by omega) h0 (by omega), Option.bind_some, mw (by omega) (by omega), setL, mor_0 vs]
          simp only [m_isIn k (show 3 ≤ 98 by omega) h0 (show i < C 2 0 by omega), Option.bind_some, dec0]
          rw [ih (i + 1) s (by omega) (by omega) vs, ih (i + 1) (mor s (mshl 1 i)) (by omega) (by omega) (mor_v _ _)]
          cases livesB C i (C 11 i) <;> rfl
      exact ⟨_, L (Int.toNat (C 2 0)) 0 0 (by omega) (by omega) v0, q0⟩)
theorem k_145 (Ln : Nat) : ck_145 Rel Ln := fun i _ => cok_of (fun σ C hR _ _ => by
  have t := hR.2.2.2.2.2
  obtain ⟨t1, t2, t3, t4⟩ := t
  refine ⟨if btB 0 i (σ 92 26 - 1) then σ 104 (Int.toNat i) else -1000000, σ, ?_, quiet_rfl _, fun τ hτ => ⟨mup τ 92 0 0, ?_, q0⟩⟩
  · rw [b_X_trace, b_Asker_leftAt, t1, mw (by omega) (by omega), x_within (by omega)]
    simp only [Option.bind_some, dec0]
    cases hb : btB 0 i (σ 92 26 - 1)
    · rfl
    · have := btB_t hb
      rw [minb_t this.1 (by omega), t4 _ (by omega)]
      rfl
  · have e1 : τ 92 26 = σ 92 26 := hτ 92 26 (by unfold scr; omega)
    rw [b_M_trace, mup_ne (by omega), e1, mw (by omega) (by omega), m_in (by omega)]
    simp only [Option.bind_some, dec0]
    cases hb : btB 0 i (σ 92 26 - 1)
    · rfl
    · have := btB_t hb
      rw [minb_t this.1 (by omega), mup_ne (by omega), hτ 104 _ (by unfold scr; omega)]
      rfl)
