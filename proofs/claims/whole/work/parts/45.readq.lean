/-! county: the class reads quarrels -/
theorem x_quarT {Ln d : Nat} {n : Int} {tp : Nat → Int} (ht : ∀ j : Nat, (j : Int) < n → 0 ≤ tp j ∧ tp j ≤ 255) (hn : n ≤ 120) (hd : 3 ≤ d) {D : Cty} (b0 : 0 ≤ D 0 0) (b7 : D 0 0 ≤ 7) (r0 : 0 ≤ D 2 0) {σ0 : mmSt} {s0 : Int × Int} (r : RX n tp σ0 s0) (h : rep 12 (cX σ0 10) D) (h7 : (quE (byB n tp) n (D 0 0) s0).1 = 0 → D 2 0 < 5) : ∃ σ', ((Option.bind (srun (lyT Ln) (d, 60, 0, [mR 9, mJ], [], σ0)) (fun y3 =>
  (Option.bind (srun (lyT Ln) (d, 62, 0, [mR 9, mI 0, mI (mwrap ((y3.1 10 0) - 1)), mI (-1000000), mJ, mJ, mJ], [], y3.1)) (fun y4 =>
  (Option.bind (srun (lyT Ln) (d, 59, 0, [mR 9, mI 44], [], y4.1)) (fun y5 =>
  (Option.bind (srun (lyT Ln) (d, 62, 0, [mR 9, mI 1, mI 9, mI (-1000000), mJ, mJ, mJ], [], y5.1)) (fun y6 =>
  (Option.bind (srun (lyT Ln) (d, 59, 0, [mR 9, mI 44], [], y6.1)) (fun y7 =>
  (Option.bind (srun (lyT Ln) (d, 62, 0, [mR 9, mI 0, mI (mwrap ((y7.1 10 0) - 1)), mI (-1000000), mJ, mJ, mJ], [], y7.1)) (fun y8 =>
  (Option.bind (srun (lyT Ln) (d, 59, 0, [mR 9, mI 59], [], y8.1)) (fun y9 =>
  (bif decide (¬ (y9.1 9 5) = 0) then
   some (y9.1, 0)
  else
   (Option.bind (srun (lyT Ln) (d, 23, 0, [mR 10, mI y3.2, mI y4.2, mI y6.2, mI y8.2], [], y9.1)) (fun y10 =>
   some (y10.1, 0)))))))))))))))))) : Option mmY) = some (σ', 0) ∧ RX n tp σ' (quE (byB n tp) n (D 0 0) s0) ∧ rep 12 (cX σ' 10) (if (quE (byB n tp) n (D 0 0) s0).1 = 0 then addQ D (kdC (byB n tp s0.2)) (quA (byB n tp) n (D 0 0) s0).1 (quZ (byB n tp) n (D 0 0) s0).1 (quB (byB n tp) n (D 0 0) s0).1 else D) ∧ frD σ0 σ' := by
  obtain ⟨σ1, e1, r1, f1⟩ := x_sort (Ln := Ln) r hn hd
  have p1 : σ1 10 0 = D 0 0 := (f1 10 0 (by omega)).trans (x0 h)
  obtain ⟨σ2, e2, r2, f2⟩ := x_number (Ln := Ln) ht r1 hn hd 0 (D 0 0 - 1) (-1000000)
  obtain ⟨σ3, e3, r3, f3⟩ := x_expect (Ln := Ln) r2 hn hd (show (0 : Int) ≤ 44 by omega)
  obtain ⟨σ4, e4, r4, f4⟩ := x_number (Ln := Ln) ht r3 hn hd 1 9 (-1000000)
  obtain ⟨σ5, e5, r5, f5⟩ := x_expect (Ln := Ln) r4 hn hd (show (0 : Int) ≤ 44 by omega)
  have p5 : σ5 10 0 = D 0 0 := (f5 10 0 (by omega)).trans ((f4 10 0 (by omega)).trans ((f3 10 0 (by omega)).trans ((f2 10 0 (by omega)).trans p1)))
  obtain ⟨σ6, e6, r6, f6⟩ := x_number (Ln := Ln) ht r5 hn hd 0 (D 0 0 - 1) (-1000000)
  obtain ⟨σ7, e7, r7, f7⟩ := x_expect (Ln := Ln) r6 hn hd (show (0 : Int) ≤ 59 by omega)
  have f07 : frR σ0 σ7 := frR_trans f1 (frR_trans f2 (frR_trans f3 (frR_trans f4 (frR_trans f5 (frR_trans f6 f7)))))
  have r7' : RX n tp σ7 (quE (byB n tp) n (D 0 0) s0) := r7
  simp only [e1, Option.bind_some, p1, mw (show -2147483648 ≤ D 0 0 - 1 by omega) (show D 0 0 - 1 < 2147483648 by omega), e2, e3, e4, e5, p5, e6, e7]
  by_cases hz : (quE (byB n tp) n (D 0 0) s0).1 = 0
  · rw [decide_eq_false (show ¬ ¬ σ7 9 5 = 0 by rw [r7'.2.1]; omega), cond_false, if_pos hz]
    obtain ⟨σ8, e8, h8, f8⟩ := x_addQ (Ln := Ln) (rep_R f07 h) r0 (h7 hz) (show 1 ≤ d by omega) (kdC (byB n tp s0.2)) (quA (byB n tp) n (D 0 0) s0).1 (quZ (byB n tp) n (D 0 0) s0).1 (quB (byB n tp) n (D 0 0) s0).1
    refine ⟨σ8, ?_, RX_D r7' (fun b j q => f8 b j (by omega)), h8, fun b j q => (f8 b j (by omega)).trans (f07 b j (by omega))⟩
    show Option.bind (srun (lyT Ln) (d, 23, 0, [mR 10, mI (kdC (byB n tp s0.2)), mI (quA (byB n tp) n (D 0 0) s0).1, mI (quZ (byB n tp) n (D 0 0) s0).1, mI (quB (byB n tp) n (D 0 0) s0).1], [], σ7)) _ = _
    rw [e8]; rfl
  · rw [decide_eq_true (show ¬ σ7 9 5 = 0 by rw [r7'.2.1]; exact hz), cond_true, if_neg hz]
    exact ⟨σ7, rfl, r7', rep_R f07 h, frR_D f07⟩
theorem so_bad {B : Int → Int} {s : Int × Int} (h : ¬ s.1 = 0) : soS B s = s := if_neg h
theorem x_quarB {Ln d : Nat} {n : Int} {tp : Nat → Int} (ht : ∀ j : Nat, (j : Int) < n → 0 ≤ tp j ∧ tp j ≤ 255) (hn : n ≤ 120) (hd : 3 ≤ d) {σ0 : mmSt} {s0 : Int × Int} (r : RX n tp σ0 s0) (hs : ¬ s0.1 = 0) : ∃ σ', ((Option.bind (srun (lyT Ln) (d, 60, 0, [mR 9, mJ], [], σ0)) (fun y3 =>
  (Option.bind (srun (lyT Ln) (d, 62, 0, [mR 9, mI 0, mI (mwrap ((y3.1 10 0) - 1)), mI (-1000000), mJ, mJ, mJ], [], y3.1)) (fun y4 =>
  (Option.bind (srun (lyT Ln) (d, 59, 0, [mR 9, mI 44], [], y4.1)) (fun y5 =>
  (Option.bind (srun (lyT Ln) (d, 62, 0, [mR 9, mI 1, mI 9, mI (-1000000), mJ, mJ, mJ], [], y5.1)) (fun y6 =>
  (Option.bind (srun (lyT Ln) (d, 59, 0, [mR 9, mI 44], [], y6.1)) (fun y7 =>
  (Option.bind (srun (lyT Ln) (d, 62, 0, [mR 9, mI 0, mI (mwrap ((y7.1 10 0) - 1)), mI (-1000000), mJ, mJ, mJ], [], y7.1)) (fun y8 =>
  (Option.bind (srun (lyT Ln) (d, 59, 0, [mR 9, mI 59], [], y8.1)) (fun y9 =>
  (bif decide (¬ (y9.1 9 5) = 0) then
   some (y9.1, 0)
  else
   (Option.bind (srun (lyT Ln) (d, 23, 0, [mR 10, mI y3.2, mI y4.2, mI y6.2, mI y8.2], [], y9.1)) (fun y10 =>
   some (y10.1, 0)))))))))))))))))) : Option mmY) = some (σ', 0) ∧ RX n tp σ' s0 ∧ frR σ0 σ' := by
  obtain ⟨σ1, e1, r1, f1⟩ := x_sort (Ln := Ln) r hn hd
  rw [so_bad hs] at r1
  obtain ⟨σ2, e2, r2, f2⟩ := x_number (Ln := Ln) ht r1 hn hd 0 (mwrap (σ1 10 0 - 1)) (-1000000)
  rw [nu_bad hs] at e2 r2
  obtain ⟨σ3, e3, r3, f3⟩ := x_expect (Ln := Ln) r2 hn hd (show (0 : Int) ≤ 44 by omega)
  rw [ex_bad hs] at r3
  obtain ⟨σ4, e4, r4, f4⟩ := x_number (Ln := Ln) ht r3 hn hd 1 9 (-1000000)
  rw [nu_bad hs] at e4 r4
  obtain ⟨σ5, e5, r5, f5⟩ := x_expect (Ln := Ln) r4 hn hd (show (0 : Int) ≤ 44 by omega)
  rw [ex_bad hs] at r5
  obtain ⟨σ6, e6, r6, f6⟩ := x_number (Ln := Ln) ht r5 hn hd 0 (mwrap (σ5 10 0 - 1)) (-1000000)
  rw [nu_bad hs] at e6 r6
  obtain ⟨σ7, e7, r7, f7⟩ := x_expect (Ln := Ln) r6 hn hd (show (0 : Int) ≤ 59 by omega)
  rw [ex_bad hs] at r7
  refine ⟨σ7, ?_, r7, frR_trans f1 (frR_trans f2 (frR_trans f3 (frR_trans f4 (frR_trans f5 (frR_trans f6 f7)))))⟩
  simp only [e1, Option.bind_some, e2, e3, e4, e5, e6, e7, decide_eq_true (show ¬ σ7 9 5 = 0 by rw [r7.2.1]; exact hs), cond_true]
theorem quar_bad {B : Int → Int} {n : Int} {D : Cty} {s : Int × Int} (h : ¬ s.1 = 0) : quarS B n D s = (s, D) := by
  have e0 : qu0 B D s = s := if_neg (fun q => h q.1)
  have e : quE B n (D 0 0) s = s := by
    unfold quE quB quZ quA
    simp only [ex_bad h, nu_bad h, so_bad h]
  unfold quarS
  rw [e0, e, if_neg h]
theorem qu0_2 (B : Int → Int) (D : Cty) (s : Int × Int) : (qu0 B D s).2 = s.2 := by
  unfold qu0
  split <;> rfl
theorem x_quar {Ln dp : Nat} {n : Int} {tp : Nat → Int} (ht : ∀ j : Nat, (j : Int) < n → 0 ≤ tp j ∧ tp j ≤ 255) (hn : n ≤ 120) (hD : 4 ≤ dp) {D : Cty} {σ : mmSt} {s : Int × Int} (r : RX n tp σ s) (h : s.1 = 0 → rep 12 (cX σ 10) D ∧ PD D) : ∃ σ', srun (lyT Ln) (dp, 55, 0, [mR 9, mJ, mJ, mJ, mJ], [], σ) = some (σ', 0) ∧ RX n tp σ' (quarS (byB n tp) n D s).1 ∧ ((quarS (byB n tp) n D s).1.1 = 0 → rep 12 (cX σ' 10) (quarS (byB n tp) n D s).2 ∧ PD (quarS (byB n tp) n D s).2) ∧ frD σ σ' := by
  obtain ⟨d, rfl⟩ := Nat.exists_eq_add_of_le' hD
  rw [b_Reader_readQuarrel, x_next r hn (by omega), Option.bind_some]
  simp only [x_kind (show 1 ≤ d + 3 by omega), Option.bind_some]
  by_cases hs : s.1 = 0
  · obtain ⟨hr, pd⟩ := h hs
    have w := pd.1
    have fin : ∀ σ0, RX n tp σ0 (qu0 (byB n tp) D s) → frR σ σ0 → ∀ X : Option mmY, (∀ σ', ((Option.bind (srun (lyT Ln) (d + 3, 60, 0, [mR 9, mJ], [], σ0)) (fun y3 =>
  (Option.bind (srun (lyT Ln) (d + 3, 62, 0, [mR 9, mI 0, mI (mwrap ((y3.1 10 0) - 1)), mI (-1000000), mJ, mJ, mJ], [], y3.1)) (fun y4 =>
  (Option.bind (srun (lyT Ln) (d + 3, 59, 0, [mR 9, mI 44], [], y4.1)) (fun y5 =>
  (Option.bind (srun (lyT Ln) (d + 3, 62, 0, [mR 9, mI 1, mI 9, mI (-1000000), mJ, mJ, mJ], [], y5.1)) (fun y6 =>
  (Option.bind (srun (lyT Ln) (d + 3, 59, 0, [mR 9, mI 44], [], y6.1)) (fun y7 =>
  (Option.bind (srun (lyT Ln) (d + 3, 62, 0, [mR 9, mI 0, mI (mwrap ((y7.1 10 0) - 1)), mI (-1000000), mJ, mJ, mJ], [], y7.1)) (fun y8 =>
  (Option.bind (srun (lyT Ln) (d + 3, 59, 0, [mR 9, mI 59], [], y8.1)) (fun y9 =>
  (bif decide (¬ (y9.1 9 5) = 0) then
   some (y9.1, 0)
  else
   (Option.bind (srun (lyT Ln) (d + 3, 23, 0, [mR 10, mI y3.2, mI y4.2, mI y6.2, mI y8.2], [], y9.1)) (fun y10 =>
   some (y10.1, 0)))))))))))))))))) : Option mmY) = some (σ', 0) → X = some (σ', 0)) → ∃ σ', X = some (σ', 0) ∧ RX n tp σ' (quarS (byB n tp) n D s).1 ∧ ((quarS (byB n tp) n D s).1.1 = 0 → rep 12 (cX σ' 10) (quarS (byB n tp) n D s).2 ∧ PD (quarS (byB n tp) n D s).2) ∧ frD σ σ' := by
      intro σ0 r0 f0 X hX
      obtain ⟨σ', e, r', h', f'⟩ := x_quarT (Ln := Ln) (d := d + 3) ht hn (by omega) (show 0 ≤ D 0 0 by omega) (by omega) (by omega) r0 (rep_R f0 hr) (fun q => (quar_ok (B := byB n tp) (n := n) (D := D) (s := s) q pd).2.2.1)
      rw [qu0_2] at h'
      exact ⟨σ', hX σ' e, r', fun q => ⟨h', (quar_ok q pd).2.2.2.1⟩, frD_trans (frR_D f0) f'⟩
    by_cases c : kdC (byB n tp s.2) = 0
    · have e0 : qu0 (byB n tp) D s = s := if_neg (fun q => q.2.1 c)
      refine fin σ (by rw [e0]; exact r) (frR_rfl _) _ (fun σ' e => ?_)
      rw [decide_eq_true c, cond_true]
      exact e
    · by_cases c7 : D 2 0 = 5
      · obtain ⟨σ1, e1, r1, f1⟩ := x_fail (Ln := Ln) r (show 1 ≤ d + 3 by omega) 3
        have e0 : qu0 (byB n tp) D s = (3, s.2) := if_pos ⟨hs, c, c7⟩
        rw [if_pos hs, ← e0] at r1
        refine fin σ1 r1 f1 _ (fun σ' e => ?_)
        rw [decide_eq_false c, cond_false, decide_eq_false (show ¬ ¬ σ 10 2 = 5 by rw [x2 hr]; omega), cond_false, e1, Option.bind_some]
        exact e
      · have e0 : qu0 (byB n tp) D s = s := if_neg (fun q => c7 q.2.2)
        refine fin σ (by rw [e0]; exact r) (frR_rfl _) _ (fun σ' e => ?_)
        rw [decide_eq_false c, cond_false, decide_eq_true (show ¬ σ 10 2 = 5 by rw [x2 hr]; exact c7), cond_true]
        exact e
  · rw [quar_bad hs]
    obtain ⟨σ1, e1, r1, f1⟩ := x_fail (Ln := Ln) r (show 1 ≤ d + 3 by omega) 3
    rw [if_neg hs] at r1
    obtain ⟨σ2, e2, r2, f2⟩ := x_quarB (Ln := Ln) (d := d + 3) ht hn (by omega) r1 hs
    obtain ⟨σ3, e3, r3, f3⟩ := x_quarB (Ln := Ln) (d := d + 3) ht hn (by omega) r hs
    by_cases c : kdC (byB n tp s.2) = 0
    · rw [decide_eq_true c, cond_true]
      exact ⟨σ3, e3, r3, fun q => absurd q hs, frR_D f3⟩
    · rw [decide_eq_false c, cond_false]
      by_cases c7 : σ 10 2 = 5
      · rw [decide_eq_false (show ¬ ¬ σ 10 2 = 5 by omega), cond_false, e1, Option.bind_some]
        exact ⟨σ2, e2, r2, fun q => absurd q hs, frR_D (frR_trans f1 f2)⟩
      · rw [decide_eq_true c7, cond_true]
        exact ⟨σ3, e3, r3, fun q => absurd q hs, frR_D f3⟩
def qsL (B : Int → Int) (n : Int) : Nat → (Int × Int) × Cty → (Int × Int) × Cty
  | 0, x => x
  | m + 1, x => if x.1.1 = 0 ∧ x.1.2 < n then qsL B n m (quarS B n x.2 x.1) else x
theorem x_quarsL {Ln dp : Nat} {n : Int} {tp : Nat → Int} (ht : ∀ j : Nat, (j : Int) < n → 0 ≤ tp j ∧ tp j ≤ 255) (hn : n ≤ 120) (hD : 5 ≤ dp) : ∀ (m : Nat) (z : Int) (σ : mmSt) (x : (Int × Int) × Cty), RX n tp σ x.1 → (x.1.1 = 0 → rep 12 (cX σ 10) x.2 ∧ PD x.2) → z + m = 5 → 0 ≤ z → ∃ σ', srun (lyT Ln) (dp, 54, 4, [mR 9, mI z], [], σ) = some (σ', 0) ∧ RX n tp σ' (qsL (byB n tp) n m x).1 ∧ ((qsL (byB n tp) n m x).1.1 = 0 → rep 12 (cX σ' 10) (qsL (byB n tp) n m x).2 ∧ PD (qsL (byB n tp) n m x).2) ∧ frD σ σ' := by
  obtain ⟨d, rfl⟩ := Nat.exists_eq_add_of_le' hD
  intro m
  induction m with
  | zero =>
    intro z σ x r h e z0
    rw [b_Reader_readQuarrels_4, decide_eq_true (show 5 ≤ z by omega)]
    exact ⟨σ, rfl, r, h, fun _ _ _ => rfl⟩
  | succ m ih =>
    intro z σ x r h e z0
    have h95 := r.2.1
    have h94 := r.2.2.1
    have h91 := r.1.1
    rw [b_Reader_readQuarrels_4, decide_eq_false (show ¬ 5 ≤ z by omega), cond_false, qsL]
    by_cases hs : x.1.1 = 0
    · rw [decide_eq_false (show ¬ ¬ σ 9 5 = 0 by omega), cond_false]
      by_cases c : x.1.2 < n
      · obtain ⟨σ1, e1, r1, h1, f1⟩ := x_quar (Ln := Ln) ht hn (show 4 ≤ d + 4 by omega) r h
        obtain ⟨σ2, e2, r2, h2, f2⟩ := ih (z + 1) σ1 (quarS (byB n tp) n x.2 x.1) r1 h1 (by omega) (by omega)
        rw [if_pos ⟨hs, c⟩, decide_eq_false (show ¬ σ 9 1 ≤ σ 9 4 by omega), cond_false, e1, Option.bind_some, mw (by omega) (by omega)]
        exact ⟨σ2, e2, r2, h2, frD_trans f1 f2⟩
      · rw [if_neg (fun q => c q.2), decide_eq_true (show σ 9 1 ≤ σ 9 4 by omega)]
        exact ⟨σ, rfl, r, h, fun _ _ _ => rfl⟩
    · rw [decide_eq_true (show ¬ σ 9 5 = 0 by omega), if_neg (fun q => hs q.1)]
      exact ⟨σ, rfl, r, h, fun _ _ _ => rfl⟩
/-- all that is read -/
def allS (B : Int → Int) (n : Int) : (Int × Int) × Cty := qsL B n 5 (quarS B n (rdsL B n 7 (roadS B n (lawS B n).2 (lawS B n).1)).2 (rdsL B n 7 (roadS B n (lawS B n).2 (lawS B n).1)).1)
theorem x_read {Ln dp : Nat} {n : Int} {tp : Nat → Int} (ht : ∀ j : Nat, (j : Int) < n → 0 ≤ tp j ∧ tp j ≤ 255) (hn0 : 0 ≤ n) (hn : n ≤ 120) (hD : 6 ≤ dp) {σ : mmSt} (t : TX n tp σ) : ∃ σ', srun (lyT Ln) (dp, 50, 0, [mR 9], [], σ) = some (σ', if (allS (byB n tp) n).1.1 = 0 then -1000000 else (allS (byB n tp) n).1.2) ∧ σ' 9 1 = 0 ∧ σ' 9 2 = (if (allS (byB n tp) n).1.1 = 0 then σ 9 2 else (allS (byB n tp) n).1.1) ∧ ((allS (byB n tp) n).1.1 = 0 → rep 12 (cX σ' 10) (allS (byB n tp) n).2 ∧ PD (allS (byB n tp) n).2) ∧ 0 ≤ (allS (byB n tp) n).1.2 ∧ (allS (byB n tp) n).1.2 ≤ n ∧ ∀ b j, ¬ ((b = 9 ∧ (j = 1 ∨ j = 2 ∨ j = 4 ∨ j = 5)) ∨ (10 ≤ b ∧ b ≤ 19)) → σ' b j = σ b j := by
  obtain ⟨d, rfl⟩ := Nat.exists_eq_add_of_le' hD
  rw [b_Reader_read, b_County_clear _ _ _ _ c10, Option.bind_some]
  have g0 : ∀ b j, ¬ ((b = 9 ∧ (j = 4 ∨ j = 5)) ∨ (10 ≤ b ∧ b ≤ 19)) → (mup (mup (mup (mup (mup (mup σ 9 4 0) 9 5 0) 10 0 0) 10 1 0) 10 2 0) 10 3 0) b j = σ b j := fun b j q => by
    simp (discharger := omega) only [mup_ne]
  have r0 : RX n tp (mup (mup (mup (mup (mup (mup σ 9 4 0) 9 5 0) 10 0 0) 10 1 0) 10 2 0) 10 3 0) (0, 0) := ⟨TX_fr t (fun b j h => g0 b j (by omega)), by simp (discharger := omega) only [mup_ne, mup_eq], by simp (discharger := omega) only [mup_ne, mup_eq], Int.le_refl _, hn0⟩
  obtain ⟨σ1, e1, r1, h1, f1⟩ := x_law (Ln := Ln) ht r0 hn (by simp (discharger := omega) only [mup_ne, mup_eq]) (by simp (discharger := omega) only [mup_ne, mup_eq]) (by simp (discharger := omega) only [mup_eq]) (show 4 ≤ d + 5 by omega)
  obtain ⟨σ2, e2, r2, h2, f2⟩ := x_road (Ln := Ln) (D := (lawS (byB n tp) n).2) ht hn (show 4 ≤ d + 4 by omega) r1 (fun q => ⟨h1 q, law_in q⟩)
  obtain ⟨σ3, e3, r3, h3, f3⟩ := x_roadsL (Ln := Ln) ht hn (show 5 ≤ d + 5 by omega) 7 0 σ2 _ r2 h2 (by omega) (by omega)
  obtain ⟨σ4, e4, r4, h4, f4⟩ := x_quar (Ln := Ln) ht hn (show 4 ≤ d + 4 by omega) r3 h3
  obtain ⟨σ5, e5, r5, h5, f5⟩ := x_quarsL (Ln := Ln) ht hn (show 5 ≤ d + 5 by omega) 5 0 σ4 _ r4 h4 (by omega) (by omega)
  have r5' : RX n tp σ5 (allS (byB n tp) n).1 := r5
  have f05 : frD _ σ5 := frD_trans f1 (frD_trans f2 (frD_trans f3 (frD_trans f4 f5)))
  simp only [e1, Option.bind_some]
  rw [b_Reader_readRoads, e2, Option.bind_some]
  simp only [e3, Option.bind_some]
  rw [b_Reader_readQuarrels, e4, Option.bind_some]
  simp only [e5, Option.bind_some]
  have s5 : (mup σ5 9 1 0) 9 5 = (allS (byB n tp) n).1.1 := (mup_ne (by omega)).trans r5'.2.1
  by_cases hz : (allS (byB n tp) n).1.1 = 0
  · rw [decide_eq_false (show ¬ ¬ (mup σ5 9 1 0) 9 5 = 0 by rw [s5]; omega), cond_false, if_pos hz, if_pos hz]
    refine ⟨_, rfl, mup_eq _ _ _ _, ?_, fun q => ⟨rep_X_of (fun b j q => mup_ne (by omega)) (h5 q).1, (h5 q).2⟩, r5'.2.2.2.1, r5'.2.2.2.2, fun b j q => ?_⟩
    · rw [mup_ne (by omega), f05 9 2 (by omega), g0 9 2 (by omega)]
    · rw [mup_ne (by omega), f05 b j (by omega), g0 b j (by omega)]
  · rw [decide_eq_true (show ¬ (mup σ5 9 1 0) 9 5 = 0 by rw [s5]; exact hz), cond_true, if_neg hz, if_neg hz, s5]
    refine ⟨mup (mup σ5 9 1 0) 9 2 (allS (byB n tp) n).1.1, ?_, ?_, mup_eq _ _ _ _, fun q => absurd q hz, r5'.2.2.2.1, r5'.2.2.2.2, fun b j q => ?_⟩
    · rw [mup_ne (by omega), mup_ne (by omega), r5'.2.2.1]
    · rw [mup_ne (by omega), mup_eq]
    · rw [mup_ne (by omega), mup_ne (by omega), f05 b j (by omega), g0 b j (by omega)]
