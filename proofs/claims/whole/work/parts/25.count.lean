/-! count, as, fed, starve -/
def sumL (f : Int → Int) : Nat → Int → Int → Int
  | 0, _, s => s
  | n + 1, i, s => sumL f n (i + 1) (s + f i)
theorem sumL_0 {f : Int → Int} : ∀ (n : Nat) (i s : Int), (∀ j, i ≤ j → j < i + n → f j = 0) → sumL f n i s = s := by
  intro n
  induction n with
  | zero => intro i s _; rfl
  | succ n ih =>
    intro i s h
    rw [sumL, h i (by omega) (by omega), Int.add_zero]
    exact ih _ _ (fun j a b => h j (by omega) (by omega))
theorem sumL_add {f : Int → Int} : ∀ (n m : Nat) (i s : Int), sumL f (n + m) i s = sumL f m (i + n) (sumL f n i s) := by
  intro n
  induction n with
  | zero => intro m i s; rw [Nat.zero_add, show i + ((0 : Nat) : Int) = i by omega]; rfl
  | succ n ih =>
    intro m i s
    rw [show n + 1 + m = (n + m) + 1 by omega, sumL, sumL, ih, show i + 1 + (n : Int) = i + ((n + 1 : Nat) : Int) by omega]
theorem x_allHay {Ln : Nat} {σ : mmSt} {C : Cty} (h : rep 12 (cX σ 48) C) (b0 : 0 ≤ C 0 0) (b7 : C 0 0 ≤ 7) (hh : ∀ p : Int, 0 ≤ p → p < 7 → 0 ≤ C 4 p ∧ C 4 p ≤ 99) {D : Nat} (hD : 1 ≤ D) : srun (lyT Ln) (D, 36, 0, [mR 48, mJ, mJ], [], σ) = some (σ, sumL (C 4) (Int.toNat (C 0 0)) 0 0) := by
  obtain ⟨d, rfl⟩ := Nat.exists_eq_add_of_le' hD
  rw [b_County_allHay _ _ _ _ c48]
  have : ∀ (n : Nat) (i s : Int), i + n = C 0 0 → 0 ≤ i → 0 ≤ s → s ≤ 99 * i → srun (lyT Ln) (d + 1, 36, 4, [mR 48, mI s, mI i], [], σ) = some (σ, sumL (C 4) n i s) := by
    intro n
    induction n with
    | zero => intro i s e h0 _ _; rw [b_County_allHay_4 _ _ _ _ _ _ c48, x0 h, decide_eq_true (by omega)]; rfl
    | succ n ih =>
      intro i s e h0 s0 s1
      have := hh i h0 (by omega)
      rw [b_County_allHay_4 _ _ _ _ _ _ c48, x0 h, decide_eq_false (by omega), cond_false, minb_t h0 (by omega), cond_true, x4 h i h0 (by omega), mw (z := i + 1) (by omega) (by omega), mw (z := s + C 4 i) (by omega) (by omega), sumL]
      exact ih _ _ (by omega) (by omega) (by omega) (by omega)
  exact this _ 0 0 (by omega) (by omega) (by omega) (by omega)
theorem m_allHay {Ln : Nat} {σ : mmSt} {C : Cty} (h : rep 12 (cM (σ 96)) C) (hh : ∀ p : Int, 0 ≤ p → p < 7 → 0 ≤ C 4 p ∧ C 4 p ≤ 99) (x : Int) : ∀ (n : Nat) (i s : Int), i + n = 7 → 0 ≤ i → 0 ≤ s → s ≤ 99 * i → srun (lyT Ln) (99, 240, 49, [mR 92, mI x, mI s, mI i], [], σ) = some (σ, sumL (C 4) n i s) := by
  intro n
  induction n with
  | zero => intro i s e h0 _ _; rw [b_M_count_49, decide_eq_true (show 7 ≤ i by omega)]; rfl
  | succ n ih =>
    intro i s e h0 s0 s1
    have := hh i h0 (by omega)
    rw [b_M_count_49, decide_eq_false (show ¬ 7 ≤ i by omega), cond_false, mw (z := 4 + i) (by omega) (by omega), minb_t (by omega) (by omega), cond_true, m4 h i h0 (by omega), mw (z := i + 1) (by omega) (by omega), mw (z := s + C 4 i) (by omega) (by omega), sumL]
    exact ih _ _ (by omega) (by omega) (by omega) (by omega)
theorem x_present {Ln : Nat} {σ : mmSt} {D : Nat} (hD : 2 ≤ D) : srun (lyT Ln) (D, 67, 0, [mR 5, mJ, mJ], [], σ) = some (σ, cntL (fun r => !decide (σ 8 (Int.toNat r) = -1)) 8 0 0) := by
  obtain ⟨d, rfl⟩ := Nat.exists_eq_add_of_le' hD
  rw [b_Rows_present]
  have : ∀ (n : Nat) (i s : Int), i + n = 8 → 0 ≤ i → 0 ≤ s → s ≤ i → srun (lyT Ln) (d + 2, 67, 4, [mR 5, mI s, mI i], [], σ) = some (σ, cntL (fun r => !decide (σ 8 (Int.toNat r) = -1)) n i s) := by
    intro n
    induction n with
    | zero => intro i s e h0 _ _; rw [b_Rows_present_4, decide_eq_true (show 8 ≤ i by omega)]; rfl
    | succ n ih =>
      intro i s e h0 s0 s1
      rw [b_Rows_present_4, decide_eq_false (show ¬ 8 ≤ i by omega), cond_false, x_missing (by omega) h0 (by omega), Option.bind_some, mw (z := i + 1) (by omega) (by omega), mw (z := s + 1) (by omega) (by omega), cntL]
      simp only [dec1]
      rw [ih (i + 1) s (by omega) (by omega) (by omega) (by omega), ih (i + 1) (s + 1) (by omega) (by omega) (by omega) (by omega)]
      cases decide (σ 8 (Int.toNat i) = -1) <;> rfl
  exact this _ 0 0 (by omega) (by omega) (by omega) (by omega)
theorem m_present {Ln : Nat} {σ : mmSt} (x : Int) : ∀ (n : Nat) (i s : Int), i + n = 8 → 0 ≤ i → 0 ≤ s → s ≤ i → srun (lyT Ln) (99, 240, 9, [mR 92, mI x, mI s, mI i], [], σ) = some (σ, cntL (fun r => !decide (σ 93 (Int.toNat r) < 0)) n i s) := by
  intro n
  induction n with
  | zero => intro i s e h0 _ _; rw [b_M_count_9, decide_eq_true (show 8 ≤ i by omega)]; rfl
  | succ n ih =>
    intro i s e h0 s0 s1
    rw [b_M_count_9, decide_eq_false (show ¬ 8 ≤ i by omega), cond_false, minb_t h0 (by omega), cond_true, mw (z := i + 1) (by omega) (by omega), mw (z := s + 1) (by omega) (by omega), mw (z := s + 0) (by omega) (by omega), Int.add_zero, cntL]
    rw [ih (i + 1) s (by omega) (by omega) (by omega) (by omega), ih (i + 1) (s + 1) (by omega) (by omega) (by omega) (by omega)]
    cases decide (σ 93 (Int.toNat i) < 0) <;> rfl
theorem cntL_cg {P Q : Int → Bool} : ∀ (n : Nat) (i s : Int), (∀ j, i ≤ j → j < i + n → P j = Q j) → cntL P n i s = cntL Q n i s := by
  intro n
  induction n with
  | zero => intro i s _; rfl
  | succ n ih =>
    intro i s h
    rw [cntL, cntL, h i (by omega) (by omega)]
    exact ih _ _ (fun j a b => h j (by omega) (by omega))
theorem k_146 (Ln : Nat) : ck_146 Rel Ln := fun w _ => cok_of (fun σ C hR hN hA => by
  obtain ⟨h, h', hc⟩ := hN
  have bb := now_b hc
  have hh : ∀ p : Int, 0 ≤ p → p < 7 → 0 ≤ C 4 p ∧ C 4 p ≤ 99 := by
    intro p a b
    rcases hc with hc | hc
    · rw [hc.2.2.2.2 p a b]; omega
    · exact hc.1.2.1 p a b
  have hz : ∀ p : Int, C 0 0 ≤ p → p < 7 → C 4 p = 0 := by
    intro p a b
    rcases hc with hc | hc
    · exact hc.2.2.2.2 p (by omega) b
    · exact hc.2.2.2 p a b
  refine ⟨if w = 0 then cntL (fun r => !decide (σ 8 (Int.toNat r) = -1)) 8 0 0 else if w = 1 then C 0 0 else if w = 2 then C 1 0 else if w = 3 then C 2 0 else if w = 4 then C 3 0 else if w = 5 then sumL (C 4) (Int.toNat (C 0 0)) 0 0 else if w = 6 then σ 92 9 else if w = 7 then σ 92 11 else -1000001, σ, ?_, quiet_rfl _, fun τ hτ => ⟨mup τ 92 0 0, ?_, q0⟩⟩
  · rw [b_X_count, x_present (by omega), x_allHay h bb.1 bb.2.1 hh (by omega), x0 h, x1 h, x2 h, x3 h, hA.1, hR.2.1.1]
    simp only [Option.bind_some, Bool.cond_decide]
    by_cases c0 : w = 0
    · rw [if_pos c0, if_pos c0]
    rw [if_neg c0, if_neg c0]
    by_cases c0 : w = 1
    · rw [if_pos c0, if_pos c0]
    rw [if_neg c0, if_neg c0]
    by_cases c0 : w = 2
    · rw [if_pos c0, if_pos c0]
    rw [if_neg c0, if_neg c0]
    by_cases c0 : w = 3
    · rw [if_pos c0, if_pos c0]
    rw [if_neg c0, if_neg c0]
    by_cases c0 : w = 4
    · rw [if_pos c0, if_pos c0]
    rw [if_neg c0, if_neg c0]
    by_cases c0 : w = 5
    · rw [if_pos c0, if_pos c0]
    rw [if_neg c0, if_neg c0]
    by_cases c0 : w = 6
    · rw [if_pos c0, if_pos c0]
    rw [if_neg c0, if_neg c0]
    by_cases c0 : w = 7
    · rw [if_pos c0, if_pos c0]
    rw [if_neg c0, if_neg c0]
  · have h2 : rep 12 (cM ((mup τ 92 0 0) 96)) C := thr (rep_M_of (fun j => hτ 96 j (by unfold scr; omega)) h')
    have e9 : (mup τ 92 0 0) 92 9 = σ 92 9 := (mup_ne (by omega)).trans (hτ 92 9 (by unfold scr; omega))
    have e11 : (mup τ 92 0 0) 92 11 = σ 92 11 := (mup_ne (by omega)).trans (hτ 92 11 (by unfold scr; omega))
    rw [b_M_count, m_present w 8 0 0 (by omega) (by omega) (by omega) (by omega), m_allHay h2 hh w 7 0 0 (by omega) (by omega) (by omega) (by omega), m0 h2, m1 h2, m2 h2, m3 h2, e9, e11]
    have s7 : sumL (C 4) 7 0 0 = sumL (C 4) (Int.toNat (C 0 0)) 0 0 := by
      rw [show 7 = Int.toNat (C 0 0) + (7 - Int.toNat (C 0 0)) by omega, sumL_add, sumL_0]
      intro j a b
      exact hz j (by omega) (by omega)
    have c8 : cntL (fun r => !decide ((mup τ 92 0 0) 93 (Int.toNat r) < 0)) 8 0 0 = cntL (fun r => !decide (σ 8 (Int.toNat r) = -1)) 8 0 0 := by
      refine cntL_cg _ _ _ (fun j a b => ?_)
      have := row_at hR.2.2.1 a (show j < 8 by omega)
      show (!decide ((mup τ 92 0 0) 93 (Int.toNat j) < 0)) = !decide (σ 8 (Int.toNat j) = -1)
      rw [mup_ne (by omega), hτ 93 _ (by unfold scr; omega)]
      congr 1
      refine decide_eq_decide.mpr ?_
      rcases this with t | t <;> omega
    rw [s7, c8]
    simp only [Bool.cond_decide]
    by_cases c0 : w = 0
    · rw [if_pos c0, if_pos c0]
    rw [if_neg c0, if_neg c0]
    by_cases c0 : w = 1
    · rw [if_pos c0, if_pos c0]
    rw [if_neg c0, if_neg c0]
    by_cases c0 : w = 2
    · rw [if_pos c0, if_pos c0]
    rw [if_neg c0, if_neg c0]
    by_cases c0 : w = 3
    · rw [if_pos c0, if_pos c0]
    rw [if_neg c0, if_neg c0]
    by_cases c0 : w = 4
    · rw [if_pos c0, if_pos c0]
    rw [if_neg c0, if_neg c0]
    by_cases c0 : w = 5
    · rw [if_pos c0, if_pos c0]
    rw [if_neg c0, if_neg c0]
    by_cases c0 : w = 6
    · rw [if_pos c0, if_pos c0]
    rw [if_neg c0, if_neg c0]
    by_cases c0 : w = 7
    · rw [if_pos c0, if_pos c0]
    rw [if_neg c0, if_neg c0])
def isB (k w : Int) : Bool := decide (w = 0) || (decide (k = w) || ((decide (w = 1) && decide (k < 4)) || (decide (w = 4) && decide (k = 5))))
theorem x_isOne {Ln : Nat} {σ : mmSt} (ht : ∀ j, σ 1 j = ro_tab 1 j) {D : Nat} (hD : 1 ≤ D) {k w : Int} (k0 : 1 ≤ k) (k1 : k ≤ 5) (w0 : 0 ≤ w) (w1 : w ≤ 5) : srun (lyT Ln) (D, 153, 0, [mI k, mI w, mJ, mJ], [], σ) = some (σ, b2i (isB k w)) := by
  obtain ⟨d, rfl⟩ := Nat.exists_eq_add_of_le' hD
  rw [b_X_isOneOf]
  have st : ∀ z i : Int, 0 ≤ z → z < 6 → 0 ≤ i → i < 5 → z ≠ w → srun (lyT Ln) (d + 1, 153, 4, [mI k, mI w, mI z, mI i], [], σ) = srun (lyT Ln) (d + 1, 153, 4, [mI k, mI w, mI (ro_tab 1 (Int.toNat z)), mI (i + 1)], [], σ) := by
    intro z i z0 z1 i0 i1 zw
    rw [b_X_isOneOf_4, decide_eq_false (show ¬ 5 ≤ i by omega), cond_false, decide_eq_false zw, cond_false, minb_t z0 (by omega), cond_true, mw (by omega) (by omega), ht]
  have ye : ∀ i : Int, srun (lyT Ln) (d + 1, 153, 4, [mI k, mI w, mI w, mI i], [], σ) = some (σ, 1) := by
    intro i
    rw [b_X_isOneOf_4, decide_eq_true (show w = w from rfl), decide_eq_false (show ¬ ¬ w = w from fun h => h rfl)]
    cases decide (5 ≤ i) <;> rfl
  have no : w ≠ 0 → ∀ (n : Nat) (i : Int), i + n = 5 → 0 ≤ i → srun (lyT Ln) (d + 1, 153, 4, [mI k, mI w, mI 0, mI i], [], σ) = some (σ, 0) := by
    intro hw n
    induction n with
    | zero =>
      intro i e i0
      rw [b_X_isOneOf_4, decide_eq_true (show 5 ≤ i by omega), decide_eq_true (show ¬ (0 : Int) = w from fun h => hw h.symm)]; rfl
    | succ n ih =>
      intro i e i0
      rw [st 0 i (by omega) (by omega) i0 (by omega) (fun h => hw h.symm)]
      exact ih (i + 1) (by omega) (by omega)
  by_cases kw : k = w
  · subst kw
    rw [ye, show isB k k = true from by unfold isB; simp]; rfl
  rw [st k 0 (by omega) (by omega) (by omega) (by omega) kw]
  have hk : k = 1 ∨ k = 2 ∨ k = 3 ∨ k = 4 ∨ k = 5 := by omega
  have hw : w = 0 ∨ w = 1 ∨ w = 2 ∨ w = 3 ∨ w = 4 ∨ w = 5 := by omega
  rcases hk with rfl | rfl | rfl | rfl | rfl
  · show srun (lyT Ln) (d + 1, 153, 4, [mI 1, mI w, mI 0, mI 1], [], σ) = _
    by_cases c : w = 0
    · subst c; exact ye 1
    · rw [no c 4 1 (by omega) (by omega)]; rcases hw with rfl | rfl | rfl | rfl | rfl | rfl <;> first | rfl | omega
  · show srun (lyT Ln) (d + 1, 153, 4, [mI 2, mI w, mI 1, mI 1], [], σ) = _
    by_cases c1 : w = 1
    · subst c1; exact ye 1
    · rw [st 1 1 (by omega) (by omega) (by omega) (by omega) (fun h => c1 h.symm)]
      show srun (lyT Ln) (d + 1, 153, 4, [mI 2, mI w, mI 0, mI 2], [], σ) = _
      by_cases c : w = 0
      · subst c; exact ye 2
      · rw [no c 3 2 (by omega) (by omega)]; rcases hw with rfl | rfl | rfl | rfl | rfl | rfl <;> first | rfl | omega
  · show srun (lyT Ln) (d + 1, 153, 4, [mI 3, mI w, mI 1, mI 1], [], σ) = _
    by_cases c1 : w = 1
    · subst c1; exact ye 1
    · rw [st 1 1 (by omega) (by omega) (by omega) (by omega) (fun h => c1 h.symm)]
      show srun (lyT Ln) (d + 1, 153, 4, [mI 3, mI w, mI 0, mI 2], [], σ) = _
      by_cases c : w = 0
      · subst c; exact ye 2
      · rw [no c 3 2 (by omega) (by omega)]; rcases hw with rfl | rfl | rfl | rfl | rfl | rfl <;> first | rfl | omega
  · show srun (lyT Ln) (d + 1, 153, 4, [mI 4, mI w, mI 0, mI 1], [], σ) = _
    by_cases c : w = 0
    · subst c; exact ye 1
    · rw [no c 4 1 (by omega) (by omega)]; rcases hw with rfl | rfl | rfl | rfl | rfl | rfl <;> first | rfl | omega
  · show srun (lyT Ln) (d + 1, 153, 4, [mI 5, mI w, mI 4, mI 1], [], σ) = _
    by_cases c1 : w = 4
    · subst c1; exact ye 1
    · rw [st 4 1 (by omega) (by omega) (by omega) (by omega) (fun h => c1 h.symm)]
      show srun (lyT Ln) (d + 1, 153, 4, [mI 5, mI w, mI 0, mI 2], [], σ) = _
      by_cases c : w = 0
      · subst c; exact ye 2
      · rw [no c 3 2 (by omega) (by omega)]; rcases hw with rfl | rfl | rfl | rfl | rfl | rfl <;> first | rfl | omega
theorem m_isOf {Ln : Nat} {σ : mmSt} {D : Nat} (hD : 1 ≤ D) {k w : Int} (k0 : 1 ≤ k) (k1 : k ≤ 5) (w0 : 0 ≤ w) (w1 : w ≤ 5) : srun (lyT Ln) (D, 230, 0, [mI k, mI w], [], σ) = some (σ, b2i (isB k w)) := by
  obtain ⟨d, rfl⟩ := Nat.exists_eq_add_of_le' hD
  rw [b_M_isOf]
  have hk : k = 1 ∨ k = 2 ∨ k = 3 ∨ k = 4 ∨ k = 5 := by omega
  have hw : w = 0 ∨ w = 1 ∨ w = 2 ∨ w = 3 ∨ w = 4 ∨ w = 5 := by omega
  rcases hk with rfl | rfl | rfl | rfl | rfl <;> rcases hw with rfl | rfl | rfl | rfl | rfl | rfl <;> rfl
theorem rep_X48 {σ σ' : mmSt} {C : Cty} (h : ∀ b j, 48 ≤ b → b ≤ 56 → σ' b j = σ b j) (w : rep 12 (cX σ 48) C) : rep 12 (cX σ' 48) C := rep_X_of (fun b j q => h b j (by omega) (by omega)) w
theorem k_143 (Ln : Nat) : ck_143 Rel Ln := fun q w _ _ => cok_r (fun σ hR => by
  have wr := hR.2.2.1
  obtain ⟨C, ⟨h, h', hc⟩, _⟩ := hR.2.2.2.1
  have b := now_b hc
  have hm := thr h'
  rw [b_X_as, x_isQuarrel c48 h (by omega) (by omega) (by omega)]
  simp only [Option.bind_some, dec0, dec1, x_within (show 1 ≤ 98 by omega)]
  cases hq : inB q (C 2 0)
  · refine ⟨-1000001, σ, mup σ 92 0 0, rfl, ?_, rowq_rfl _, rowq_q q0, rows_of (fun b j h => mup_ne (by omega)) wr⟩
    rw [b_M_as, m_isQuarrel hm (by omega) (by omega) (by omega), hq]; rfl
  have q1 := inB_t hq
  have G := now_q hc hq
  have w8 := G.1.2.2.2 q q1.1 q1.2
  cases hw : btB 0 w 5
  · refine ⟨-1000001, σ, mup σ 92 0 0, rfl, ?_, rowq_rfl _, rowq_q q0, rows_of (fun b j h => mup_ne (by omega)) wr⟩
    rw [b_M_as, m_isQuarrel hm (by omega) (by omega) (by omega), hq]
    simp only [Option.bind_some, dec0, dec1, m_in (show 1 ≤ 98 by omega), hw]; rfl
  have w1 := btB_t hw
  have cM2 : ∀ v : Int, KM (mup (mup (mup σ 4 7 v) 92 0 0) 92 1 0) 96 C := fun v => ⟨.inl rfl, rep_M_of (fun j => by rw [mup_ne (by omega), mup_ne (by omega), mup_ne (by omega)]) h', good_W G⟩
  rw [minb_t q1.1 (by omega), show σ 53 (Int.toNat q) = C 8 q from x8 h q q1.1 q1.2, x_isOne (fun j => (hR.1 j).1) (by omega) w8.1 w8.2.1 w1.1 w1.2]
  simp only [Option.bind_some, dec0, Bool.not_true, cond_false, cond_true, x_found (show 1 ≤ 98 by omega), x_fine (show 1 ≤ 98 by omega)]
  have mm : ∀ v : Int, srun (lyT Ln) (99, 232, 0, [mR 92, mI q, mI w], [], mup σ 4 7 v) = (bif !isB (C 8 q) w then some (mup (mup (mup (mup σ 4 7 v) 92 0 0) 92 1 0) 92 1 3, mwrap (-1000010 - 3)) else some (mup (mup (mup σ 4 7 v) 92 0 0) 92 1 0, q)) := by
    intro v
    have hm2 : rep 12 (cM ((mup (mup σ 4 7 v) 92 0 0) 96)) C := rep_M_of (fun j => by rw [mup_ne (by omega), mup_ne (by omega)]) h'
    rw [b_M_as, m_isQuarrel hm2 (by omega) (by omega) (by omega), hq]
    simp only [Option.bind_some, dec0, dec1, m_in (show 1 ≤ 98 by omega), hw, Bool.not_true, cond_false, cond_true, m_of0 (cM2 v) (show 1 ≤ 98 by omega) q1.1 q1.2, m_isOf (show 1 ≤ 98 by omega) w8.1 w8.2.1 w1.1 w1.2, m_found (show 1 ≤ 98 by omega)]
  cases hb : isB (C 8 q) w
  · refine ⟨mwrap (-1000010 - 3), mup σ 4 7 3, mup (mup (mup (mup σ 4 7 3) 92 0 0) 92 1 0) 92 1 3, rfl, ?_, rowq_up (by unfold rowc; omega), rowq_trans (rowq_up (by unfold scr; omega)) (rowq_trans (rowq_up (by unfold rowc; omega)) (rowq_up (by unfold rowc; omega))), Rrows_st (v := 3) wr (fun b j h => by rw [mup_ne (by omega), mup_ne (by omega), mup_ne (by omega), mup_ne (by omega)]) ?_ ?_⟩
    · rw [mm, hb]; rfl
    · rw [mup_ne (by omega), mup_ne (by omega), mup_ne (by omega), mup_eq]
    · rw [mup_eq]
  · refine ⟨q, mup σ 4 7 0, mup (mup (mup σ 4 7 0) 92 0 0) 92 1 0, rfl, ?_, rowq_up (by unfold rowc; omega), rowq_trans (rowq_up (by unfold scr; omega)) (rowq_up (by unfold rowc; omega)), Rrows_st (v := 0) wr (fun b j h => by rw [mup_ne (by omega), mup_ne (by omega), mup_ne (by omega)]) ?_ ?_⟩
    · rw [mm, hb]; rfl
    · rw [mup_ne (by omega), mup_ne (by omega), mup_eq]
    · rw [mup_eq])
