/-! county: the class reads law, roads, quarrels -/
theorem x_addP {Ln : Nat} {v w : Int} (v1 : v ≤ 7) {dp : Nat} (hD : 1 ≤ dp) : ∀ (m : Nat) (z : Int) (σ : mmSt), z + m = 7 → 0 ≤ z → ∃ σ', srun (lyT Ln) (dp, 21, 5, [mR 10, mI v, mI w, mI z], [], σ) = some (σ', 0) ∧ (∀ b j, b ≠ 11 → σ' b j = σ b j) ∧ ∀ j : Nat, (z ≤ (j : Int) → j < 7 → σ' 11 j = if (j : Int) < v then w else 0) ∧ ((j : Int) < z → σ' 11 j = σ 11 j) := by
  obtain ⟨d, rfl⟩ := Nat.exists_eq_add_of_le' hD
  intro m
  induction m with
  | zero =>
    intro z σ e z0
    rw [b_County_addParishes_5 _ _ _ _ _ _ _ c10, decide_eq_true (show 7 ≤ z by omega)]
    exact ⟨σ, rfl, fun _ _ _ => rfl, fun j => ⟨fun a b => by omega, fun _ => rfl⟩⟩
  | succ m ih =>
    intro z σ e z0
    rw [b_County_addParishes_5 _ _ _ _ _ _ _ c10, decide_eq_false (show ¬ 7 ≤ z by omega), cond_false, minb_t z0 (by omega), cond_true, cond_true, mw (by omega) (by omega)]
    have F : ∀ u : Int, u = (if z < v then w else 0) → ∃ σ', srun (lyT Ln) (d + 1, 21, 5, [mR 10, mI v, mI w, mI (z + 1)], [], mup σ (10 + 1) (Int.toNat z) u) = some (σ', 0) ∧ (∀ b j, b ≠ 11 → σ' b j = σ b j) ∧ ∀ j : Nat, (z ≤ (j : Int) → j < 7 → σ' 11 j = if (j : Int) < v then w else 0) ∧ ((j : Int) < z → σ' 11 j = σ 11 j) := by
      intro u hu
      obtain ⟨σ', e1, f1, g1⟩ := ih (z + 1) (mup σ (10 + 1) (Int.toNat z) u) (by omega) (by omega)
      refine ⟨σ', e1, fun b j h => (f1 b j h).trans (mup_ne (by omega)), fun j => ⟨fun a b => ?_, fun a => ?_⟩⟩
      · by_cases c : (j : Int) = z
        · rw [(g1 j).2 (by omega), mup_ap, if_pos (by omega), hu, c]
        · exact (g1 j).1 (by omega) b
      · rw [(g1 j).2 (by omega), mup_ne (by omega)]
    by_cases c : v ≤ z
    · rw [decide_eq_true c, cond_true]; exact F 0 (by rw [if_neg (by omega)])
    · rw [decide_eq_false c, cond_false]; exact F w (by rw [if_pos (by omega)])
theorem law_in {B : Int → Int} {n : Int} (h : (lawS B n).1.1 = 0) : PD (lawS B n).2 := by
  have h6 := nu_ok (B := B) (n := n) (lo := 0) (hi := 9) (bar := -1000000) (ex_ok (c := 59) h)
  have h4 := nu_ok (B := B) (n := n) (lo := 2) (hi := 7) (bar := -1000000) (ex_ok h6.1)
  exact PD_law h4.2.1 h4.2.2.1 h6.2.1 h6.2.2.1
theorem x_law {Ln : Nat} {n : Int} {tp : Nat → Int} (ht : ∀ j : Nat, (j : Int) < n → 0 ≤ tp j ∧ tp j ≤ 255) {σ : mmSt} (r : RX n tp σ (0, 0)) (hn : n ≤ 120) (z1 : σ 10 1 = 0) (z2 : σ 10 2 = 0) (z3 : σ 10 3 = 0) {dp : Nat} (hD : 4 ≤ dp) : ∃ σ', srun (lyT Ln) (dp, 51, 0, [mR 9, mJ, mJ], [], σ) = some (σ', 0) ∧ RX n tp σ' (lawS (byB n tp) n).1 ∧ ((lawS (byB n tp) n).1.1 = 0 → rep 12 (cX σ' 10) (lawS (byB n tp) n).2) ∧ frD σ σ' := by
  obtain ⟨d, rfl⟩ := Nat.exists_eq_add_of_le' hD
  obtain ⟨σ1, e1, r1, f1⟩ := x_expect (Ln := Ln) r hn (show 3 ≤ d + 3 by omega) (show (0 : Int) ≤ 99 by omega)
  obtain ⟨σ2, e2, r2, f2⟩ := x_number (Ln := Ln) ht r1 hn (show 3 ≤ d + 3 by omega) 2 7 (-1000000)
  obtain ⟨σ3, e3, r3, f3⟩ := x_expect (Ln := Ln) r2 hn (show 3 ≤ d + 3 by omega) (show (0 : Int) ≤ 44 by omega)
  obtain ⟨σ4, e4, r4, f4⟩ := x_number (Ln := Ln) ht r3 hn (show 3 ≤ d + 3 by omega) 0 9 (-1000000)
  obtain ⟨σ5, e5, r5, f5⟩ := x_expect (Ln := Ln) r4 hn (show 3 ≤ d + 3 by omega) (show (0 : Int) ≤ 59 by omega)
  have f05 : frR σ σ5 := frR_trans f1 (frR_trans f2 (frR_trans f3 (frR_trans f4 f5)))
  have r5' : RX n tp σ5 (lawS (byB n tp) n).1 := r5
  rw [b_Reader_readLaw, e1, Option.bind_some]
  simp only [e2, e3, e4, e5, Option.bind_some]
  by_cases h : (lawS (byB n tp) n).1.1 = 0
  · have pd := law_in h
    have pd0 : (lawS (byB n tp) n).2 0 0 ≤ 7 := pd.1.2.1
    rw [decide_eq_false (show ¬ ¬ σ5 9 5 = 0 by rw [r5'.2.1]; omega), cond_false, b_County_addParishes _ _ _ _ _ _ c10]
    obtain ⟨σ6, e6, f6, g6⟩ := x_addP (Ln := Ln) (v := (lawS (byB n tp) n).2 0 0) (w := (nuS (byB n tp) n 0 9 (-1000000) (exS (byB n tp) 44 (nuS (byB n tp) n 2 7 (-1000000) (exS (byB n tp) 99 (0, 0))).2)).1) pd0 (show 1 ≤ d + 3 by omega) 7 0 (mup σ5 10 0 ((lawS (byB n tp) n).2 0 0)) (by omega) (by omega)
    have e6' : srun (lyT Ln) (d + 2 + 1, 21, 5, [mR 10, mI (nuS (byB n tp) n 2 7 (-1000000) (exS (byB n tp) 99 (0, 0))).1, mI (nuS (byB n tp) n 0 9 (-1000000) (exS (byB n tp) 44 (nuS (byB n tp) n 2 7 (-1000000) (exS (byB n tp) 99 (0, 0))).2)).1, mI 0], [], mup σ5 10 0 (nuS (byB n tp) n 2 7 (-1000000) (exS (byB n tp) 99 (0, 0))).1) = some (σ6, 0) := e6
    rw [e6']
    have k : ∀ j, j < 4 → j ≠ 0 → σ6 10 j = σ 10 j := fun j _ hj => (f6 10 j (by omega)).trans ((mup_ne (by omega)).trans (f05 10 j (by omega)))
    refine ⟨σ6, rfl, RX_D r5' (fun b j q => (f6 b j (by omega)).trans (mup_ne (by omega))), fun _ => ?_, fun b j q => (f6 b j (by omega)).trans ((mup_ne (by omega)).trans (f05 b j (by omega)))⟩
    refine rep_mkX ?_ ?_ ?_ ?_ (fun i i0 i1 => ?_) (fun i i0 i1 => ?_) (fun i i0 i1 => ?_) (fun i i0 i1 => ?_) (fun i i0 i1 => ?_) (fun i i0 i1 => ?_) (fun i i0 i1 => ?_) (fun i i0 i1 => ?_)
    · rw [f6 10 0 (by omega), mup_eq]
    · rw [k 1 (by omega) (by omega), z1]; rfl
    · rw [k 2 (by omega) (by omega), z2]; rfl
    · rw [k 3 (by omega) (by omega), z3]; rfl
    · rw [(g6 (Int.toNat i)).1 (by omega) (by omega), Int.toNat_of_nonneg i0]; rfl
    · have : i < 0 := i1
      omega
    · have : i < 0 := i1
      omega
    · have : i < 0 := i1
      omega
    · have : i < 0 := i1
      omega
    · have : i < 0 := i1
      omega
    · have : i < 0 := i1
      omega
    · have : i < 0 := i1
      omega
  · rw [decide_eq_true (show ¬ σ5 9 5 = 0 by rw [r5'.2.1]; exact h), cond_true]
    exact ⟨σ5, rfl, r5', fun q => absurd q h, frR_D f05⟩
theorem x_roadT {Ln d : Nat} {n : Int} {tp : Nat → Int} (ht : ∀ j : Nat, (j : Int) < n → 0 ≤ tp j ∧ tp j ≤ 255) (hn : n ≤ 120) (hd : 3 ≤ d) {D : Cty} (b0 : 0 ≤ D 0 0) (b7 : D 0 0 ≤ 7) (r0 : 0 ≤ D 1 0) {σ0 : mmSt} {s0 : Int × Int} (r : RX n tp σ0 s0) (h : rep 12 (cX σ0 10) D) (h7 : (rdE (byB n tp) n (D 0 0) s0).1 = 0 → D 1 0 < 7) : ∃ σ', ((Option.bind (srun (lyT Ln) (d, 59, 0, [mR 9, mI 114], [], σ0)) (fun y2 =>
  (Option.bind (srun (lyT Ln) (d, 62, 0, [mR 9, mI 0, mI (mwrap ((y2.1 10 0) - 1)), mI (-1000000), mJ, mJ, mJ], [], y2.1)) (fun y3 =>
  (Option.bind (srun (lyT Ln) (d, 59, 0, [mR 9, mI 44], [], y3.1)) (fun y4 =>
  (Option.bind (srun (lyT Ln) (d, 62, 0, [mR 9, mI 0, mI (mwrap ((y4.1 10 0) - 1)), mI y3.2, mJ, mJ, mJ], [], y4.1)) (fun y5 =>
  (Option.bind (srun (lyT Ln) (d, 59, 0, [mR 9, mI 44], [], y5.1)) (fun y6 =>
  (Option.bind (srun (lyT Ln) (d, 62, 0, [mR 9, mI 0, mI 9, mI (-1000000), mJ, mJ, mJ], [], y6.1)) (fun y7 =>
  (Option.bind (srun (lyT Ln) (d, 59, 0, [mR 9, mI 59], [], y7.1)) (fun y8 =>
  (bif decide (¬ (y8.1 9 5) = 0) then
   some (y8.1, 0)
  else
   (Option.bind (srun (lyT Ln) (d, 22, 0, [mR 10, mI y3.2, mI y5.2, mI y7.2], [], y8.1)) (fun y9 =>
   some (y9.1, 0)))))))))))))))))) : Option mmY) = some (σ', 0) ∧ RX n tp σ' (rdE (byB n tp) n (D 0 0) s0) ∧ rep 12 (cX σ' 10) (if (rdE (byB n tp) n (D 0 0) s0).1 = 0 then addR D (rdU (byB n tp) n (D 0 0) s0).1 (rdW (byB n tp) n (D 0 0) s0).1 (rdG (byB n tp) n (D 0 0) s0).1 else D) ∧ frD σ0 σ' := by
  obtain ⟨σ1, e1, r1, f1⟩ := x_expect (Ln := Ln) r hn hd (show (0 : Int) ≤ 114 by omega)
  have p1 : σ1 10 0 = D 0 0 := (f1 10 0 (by omega)).trans (x0 h)
  obtain ⟨σ2, e2, r2, f2⟩ := x_number (Ln := Ln) ht r1 hn hd 0 (D 0 0 - 1) (-1000000)
  obtain ⟨σ3, e3, r3, f3⟩ := x_expect (Ln := Ln) r2 hn hd (show (0 : Int) ≤ 44 by omega)
  have p3 : σ3 10 0 = D 0 0 := (f3 10 0 (by omega)).trans ((f2 10 0 (by omega)).trans p1)
  obtain ⟨σ4, e4, r4, f4⟩ := x_number (Ln := Ln) ht r3 hn hd 0 (D 0 0 - 1) (rdU (byB n tp) n (D 0 0) s0).1
  obtain ⟨σ5, e5, r5, f5⟩ := x_expect (Ln := Ln) r4 hn hd (show (0 : Int) ≤ 44 by omega)
  obtain ⟨σ6, e6, r6, f6⟩ := x_number (Ln := Ln) ht r5 hn hd 0 9 (-1000000)
  obtain ⟨σ7, e7, r7, f7⟩ := x_expect (Ln := Ln) r6 hn hd (show (0 : Int) ≤ 59 by omega)
  have f07 : frR σ0 σ7 := frR_trans f1 (frR_trans f2 (frR_trans f3 (frR_trans f4 (frR_trans f5 (frR_trans f6 f7)))))
  have r7' : RX n tp σ7 (rdE (byB n tp) n (D 0 0) s0) := r7
  have e4' : srun (lyT Ln) (d, 62, 0, [mR 9, mI 0, mI (D 0 0 - 1), mI (nuS (byB n tp) n 0 (D 0 0 - 1) (-1000000) (exS (byB n tp) 114 s0)).1, mJ, mJ, mJ], [], σ3) = some (σ4, (rdW (byB n tp) n (D 0 0) s0).1) := e4
  simp only [e1, Option.bind_some, p1, mw (show -2147483648 ≤ D 0 0 - 1 by omega) (show D 0 0 - 1 < 2147483648 by omega), e2, e3, p3, e4', e5, e6, e7]
  by_cases hz : (rdE (byB n tp) n (D 0 0) s0).1 = 0
  · rw [decide_eq_false (show ¬ ¬ σ7 9 5 = 0 by rw [r7'.2.1]; omega), cond_false, if_pos hz]
    obtain ⟨σ8, e8, h8, f8⟩ := x_addR (Ln := Ln) (rep_R f07 h) r0 (h7 hz) (show 1 ≤ d by omega) (rdU (byB n tp) n (D 0 0) s0).1 (rdW (byB n tp) n (D 0 0) s0).1 (rdG (byB n tp) n (D 0 0) s0).1
    have e8' : srun (lyT Ln) (d, 22, 0, [mR 10, mI (nuS (byB n tp) n 0 (D 0 0 - 1) (-1000000) (exS (byB n tp) 114 s0)).1, mI (rdW (byB n tp) n (D 0 0) s0).1, mI (nuS (byB n tp) n 0 9 (-1000000) (exS (byB n tp) 44 (nuS (byB n tp) n 0 (D 0 0 - 1) (rdU (byB n tp) n (D 0 0) s0).1 (exS (byB n tp) 44 (nuS (byB n tp) n 0 (D 0 0 - 1) (-1000000) (exS (byB n tp) 114 s0)).2)).2)).1], [], σ7) = some (σ8, 0) := e8
    rw [e8']
    exact ⟨σ8, rfl, RX_D r7' (fun b j q => f8 b j (by omega)), h8, fun b j q => (f8 b j (by omega)).trans (f07 b j (by omega))⟩
  · rw [decide_eq_true (show ¬ σ7 9 5 = 0 by rw [r7'.2.1]; exact hz), cond_true, if_neg hz]
    exact ⟨σ7, rfl, r7', rep_R f07 h, frR_D f07⟩
theorem x_roadB {Ln d : Nat} {n : Int} {tp : Nat → Int} (ht : ∀ j : Nat, (j : Int) < n → 0 ≤ tp j ∧ tp j ≤ 255) (hn : n ≤ 120) (hd : 3 ≤ d) {σ0 : mmSt} {s0 : Int × Int} (r : RX n tp σ0 s0) (hs : ¬ s0.1 = 0) : ∃ σ', ((Option.bind (srun (lyT Ln) (d, 59, 0, [mR 9, mI 114], [], σ0)) (fun y2 =>
  (Option.bind (srun (lyT Ln) (d, 62, 0, [mR 9, mI 0, mI (mwrap ((y2.1 10 0) - 1)), mI (-1000000), mJ, mJ, mJ], [], y2.1)) (fun y3 =>
  (Option.bind (srun (lyT Ln) (d, 59, 0, [mR 9, mI 44], [], y3.1)) (fun y4 =>
  (Option.bind (srun (lyT Ln) (d, 62, 0, [mR 9, mI 0, mI (mwrap ((y4.1 10 0) - 1)), mI y3.2, mJ, mJ, mJ], [], y4.1)) (fun y5 =>
  (Option.bind (srun (lyT Ln) (d, 59, 0, [mR 9, mI 44], [], y5.1)) (fun y6 =>
  (Option.bind (srun (lyT Ln) (d, 62, 0, [mR 9, mI 0, mI 9, mI (-1000000), mJ, mJ, mJ], [], y6.1)) (fun y7 =>
  (Option.bind (srun (lyT Ln) (d, 59, 0, [mR 9, mI 59], [], y7.1)) (fun y8 =>
  (bif decide (¬ (y8.1 9 5) = 0) then
   some (y8.1, 0)
  else
   (Option.bind (srun (lyT Ln) (d, 22, 0, [mR 10, mI y3.2, mI y5.2, mI y7.2], [], y8.1)) (fun y9 =>
   some (y9.1, 0)))))))))))))))))) : Option mmY) = some (σ', 0) ∧ RX n tp σ' s0 ∧ frR σ0 σ' := by
  obtain ⟨σ1, e1, r1, f1⟩ := x_expect (Ln := Ln) r hn hd (show (0 : Int) ≤ 114 by omega)
  rw [ex_bad hs] at r1
  obtain ⟨σ2, e2, r2, f2⟩ := x_number (Ln := Ln) ht r1 hn hd 0 (mwrap (σ1 10 0 - 1)) (-1000000)
  rw [nu_bad hs] at e2 r2
  obtain ⟨σ3, e3, r3, f3⟩ := x_expect (Ln := Ln) r2 hn hd (show (0 : Int) ≤ 44 by omega)
  rw [ex_bad hs] at r3
  obtain ⟨σ4, e4, r4, f4⟩ := x_number (Ln := Ln) ht r3 hn hd 0 (mwrap (σ3 10 0 - 1)) 0
  rw [nu_bad hs] at e4 r4
  obtain ⟨σ5, e5, r5, f5⟩ := x_expect (Ln := Ln) r4 hn hd (show (0 : Int) ≤ 44 by omega)
  rw [ex_bad hs] at r5
  obtain ⟨σ6, e6, r6, f6⟩ := x_number (Ln := Ln) ht r5 hn hd 0 9 (-1000000)
  rw [nu_bad hs] at e6 r6
  obtain ⟨σ7, e7, r7, f7⟩ := x_expect (Ln := Ln) r6 hn hd (show (0 : Int) ≤ 59 by omega)
  rw [ex_bad hs] at r7
  refine ⟨σ7, ?_, r7, frR_trans f1 (frR_trans f2 (frR_trans f3 (frR_trans f4 (frR_trans f5 (frR_trans f6 f7)))))⟩
  simp only [e1, Option.bind_some, e2, e3, e4, e5, e6, e7, decide_eq_true (show ¬ σ7 9 5 = 0 by rw [r7.2.1]; exact hs), cond_true]
theorem road_bad {B : Int → Int} {n : Int} {D : Cty} {s : Int × Int} (h : ¬ s.1 = 0) : roadS B n D s = (s, D) := by
  have e0 : rd0 B D s = s := if_neg (fun q => h q.1)
  have e : rdE B n (D 0 0) s = s := by
    unfold rdE rdG rdW rdU
    simp only [ex_bad h, nu_bad h]
  unfold roadS
  rw [e0, e, if_neg h]
/-- a road: the state and the county behind it -/
theorem x_road {Ln dp : Nat} {n : Int} {tp : Nat → Int} (ht : ∀ j : Nat, (j : Int) < n → 0 ≤ tp j ∧ tp j ≤ 255) (hn : n ≤ 120) (hD : 4 ≤ dp) {D : Cty} {σ : mmSt} {s : Int × Int} (r : RX n tp σ s) (h : s.1 = 0 → rep 12 (cX σ 10) D ∧ PD D) : ∃ σ', srun (lyT Ln) (dp, 53, 0, [mR 9, mJ, mJ, mJ], [], σ) = some (σ', 0) ∧ RX n tp σ' (roadS (byB n tp) n D s).1 ∧ ((roadS (byB n tp) n D s).1.1 = 0 → rep 12 (cX σ' 10) (roadS (byB n tp) n D s).2 ∧ PD (roadS (byB n tp) n D s).2) ∧ frD σ σ' := by
  obtain ⟨d, rfl⟩ := Nat.exists_eq_add_of_le' hD
  rw [b_Reader_readRoad, x_next r hn (by omega), Option.bind_some]
  by_cases hs : s.1 = 0
  · obtain ⟨hr, pd⟩ := h hs
    have w := pd.1
    have fin : ∀ σ0, RX n tp σ0 (rd0 (byB n tp) D s) → frR σ σ0 → ∀ X : Option mmY, (∀ σ', ((Option.bind (srun (lyT Ln) (d + 3, 59, 0, [mR 9, mI 114], [], σ0)) (fun y2 =>
  (Option.bind (srun (lyT Ln) (d + 3, 62, 0, [mR 9, mI 0, mI (mwrap ((y2.1 10 0) - 1)), mI (-1000000), mJ, mJ, mJ], [], y2.1)) (fun y3 =>
  (Option.bind (srun (lyT Ln) (d + 3, 59, 0, [mR 9, mI 44], [], y3.1)) (fun y4 =>
  (Option.bind (srun (lyT Ln) (d + 3, 62, 0, [mR 9, mI 0, mI (mwrap ((y4.1 10 0) - 1)), mI y3.2, mJ, mJ, mJ], [], y4.1)) (fun y5 =>
  (Option.bind (srun (lyT Ln) (d + 3, 59, 0, [mR 9, mI 44], [], y5.1)) (fun y6 =>
  (Option.bind (srun (lyT Ln) (d + 3, 62, 0, [mR 9, mI 0, mI 9, mI (-1000000), mJ, mJ, mJ], [], y6.1)) (fun y7 =>
  (Option.bind (srun (lyT Ln) (d + 3, 59, 0, [mR 9, mI 59], [], y7.1)) (fun y8 =>
  (bif decide (¬ (y8.1 9 5) = 0) then
   some (y8.1, 0)
  else
   (Option.bind (srun (lyT Ln) (d + 3, 22, 0, [mR 10, mI y3.2, mI y5.2, mI y7.2], [], y8.1)) (fun y9 =>
   some (y9.1, 0)))))))))))))))))) : Option mmY) = some (σ', 0) → X = some (σ', 0)) → ∃ σ', X = some (σ', 0) ∧ RX n tp σ' (roadS (byB n tp) n D s).1 ∧ ((roadS (byB n tp) n D s).1.1 = 0 → rep 12 (cX σ' 10) (roadS (byB n tp) n D s).2 ∧ PD (roadS (byB n tp) n D s).2) ∧ frD σ σ' := by
      intro σ0 r0 f0 X hX
      obtain ⟨σ', e, r', h', f'⟩ := x_roadT (Ln := Ln) (d := d + 3) ht hn (by omega) (show 0 ≤ D 0 0 by omega) (by omega) (by omega) r0 (rep_R f0 hr) (fun q => (road_ok (B := byB n tp) (n := n) (D := D) (s := s) q pd).2.2.1)
      exact ⟨σ', hX σ' e, r', fun q => ⟨h', (road_ok q pd).2.2.2.1⟩, frD_trans (frR_D f0) f'⟩
    by_cases c : byB n tp s.2 = 114
    · by_cases c7 : D 1 0 = 7
      · obtain ⟨σ1, e1, r1, f1⟩ := x_fail (Ln := Ln) r (show 1 ≤ d + 3 by omega) 3
        have e0 : rd0 (byB n tp) D s = (3, s.2) := if_pos ⟨hs, c, c7⟩
        rw [if_pos hs, ← e0] at r1
        refine fin σ1 r1 f1 _ (fun σ' e => ?_)
        simp only [decide_eq_false (show ¬ ¬ byB n tp s.2 = 114 by omega), cond_false]
        rw [decide_eq_false (show ¬ ¬ σ 10 1 = 7 by rw [x1 hr]; omega), cond_false, e1, Option.bind_some]
        exact e
      · have e0 : rd0 (byB n tp) D s = s := if_neg (fun q => c7 q.2.2)
        refine fin σ (by rw [e0]; exact r) (frR_rfl _) _ (fun σ' e => ?_)
        simp only [decide_eq_false (show ¬ ¬ byB n tp s.2 = 114 by omega), cond_false]
        rw [decide_eq_true (show ¬ σ 10 1 = 7 by rw [x1 hr]; exact c7), cond_true]
        exact e
    · have e0 : rd0 (byB n tp) D s = s := if_neg (fun q => c q.2.1)
      refine fin σ (by rw [e0]; exact r) (frR_rfl _) _ (fun σ' e => ?_)
      simp only [decide_eq_true c, cond_true]
      exact e
  · rw [road_bad hs]
    obtain ⟨σ1, e1, r1, f1⟩ := x_fail (Ln := Ln) r (show 1 ≤ d + 3 by omega) 3
    rw [if_neg hs] at r1
    obtain ⟨σ2, e2, r2, f2⟩ := x_roadB (Ln := Ln) (d := d + 3) ht hn (by omega) r1 hs
    obtain ⟨σ3, e3, r3, f3⟩ := x_roadB (Ln := Ln) (d := d + 3) ht hn (by omega) r hs
    by_cases c : byB n tp s.2 = 114
    · simp only [decide_eq_false (show ¬ ¬ byB n tp s.2 = 114 by omega), cond_false]
      by_cases c7 : σ 10 1 = 7
      · rw [decide_eq_false (show ¬ ¬ σ 10 1 = 7 by omega), cond_false, e1, Option.bind_some]
        exact ⟨σ2, e2, r2, fun q => absurd q hs, frR_D (frR_trans f1 f2)⟩
      · rw [decide_eq_true c7, cond_true]
        exact ⟨σ3, e3, r3, fun q => absurd q hs, frR_D f3⟩
    · simp only [decide_eq_true c, cond_true]
      exact ⟨σ3, e3, r3, fun q => absurd q hs, frR_D f3⟩
def rdsL (B : Int → Int) (n : Int) : Nat → (Int × Int) × Cty → (Int × Int) × Cty
  | 0, x => x
  | m + 1, x => if x.1.1 = 0 ∧ B x.1.2 = 114 then rdsL B n m (roadS B n x.2 x.1) else x
theorem x_roadsL {Ln dp : Nat} {n : Int} {tp : Nat → Int} (ht : ∀ j : Nat, (j : Int) < n → 0 ≤ tp j ∧ tp j ≤ 255) (hn : n ≤ 120) (hD : 5 ≤ dp) : ∀ (m : Nat) (z : Int) (σ : mmSt) (x : (Int × Int) × Cty), RX n tp σ x.1 → (x.1.1 = 0 → rep 12 (cX σ 10) x.2 ∧ PD x.2) → z + m = 7 → 0 ≤ z → ∃ σ', srun (lyT Ln) (dp, 52, 4, [mR 9, mI z], [], σ) = some (σ', 0) ∧ RX n tp σ' (rdsL (byB n tp) n m x).1 ∧ ((rdsL (byB n tp) n m x).1.1 = 0 → rep 12 (cX σ' 10) (rdsL (byB n tp) n m x).2 ∧ PD (rdsL (byB n tp) n m x).2) ∧ frD σ σ' := by
  obtain ⟨d, rfl⟩ := Nat.exists_eq_add_of_le' hD
  intro m
  induction m with
  | zero =>
    intro z σ x r h e z0
    rw [b_Reader_readRoads_4, decide_eq_true (show 7 ≤ z by omega)]
    exact ⟨σ, rfl, r, h, fun _ _ _ => rfl⟩
  | succ m ih =>
    intro z σ x r h e z0
    have h95 := r.2.1
    rw [b_Reader_readRoads_4, decide_eq_false (show ¬ 7 ≤ z by omega), cond_false, rdsL]
    by_cases hs : x.1.1 = 0
    · rw [decide_eq_false (show ¬ ¬ σ 9 5 = 0 by omega), cond_false, x_next r hn (by omega), Option.bind_some]
      by_cases c : byB n tp x.1.2 = 114
      · obtain ⟨σ1, e1, r1, h1, f1⟩ := x_road (Ln := Ln) ht hn (show 4 ≤ d + 4 by omega) r h
        obtain ⟨σ2, e2, r2, h2, f2⟩ := ih (z + 1) σ1 (roadS (byB n tp) n x.2 x.1) r1 h1 (by omega) (by omega)
        rw [if_pos ⟨hs, c⟩]
        simp only [decide_eq_false (show ¬ ¬ byB n tp x.1.2 = 114 by omega), cond_false, e1, Option.bind_some, mw (show -2147483648 ≤ z + 1 by omega) (show z + 1 < 2147483648 by omega)]
        exact ⟨σ2, e2, r2, h2, frD_trans f1 f2⟩
      · rw [if_neg (fun q => c q.2)]
        simp only [decide_eq_true c, cond_true]
        exact ⟨σ, rfl, r, h, fun _ _ _ => rfl⟩
    · rw [decide_eq_true (show ¬ σ 9 5 = 0 by omega), if_neg (fun q => hs q.1)]
      exact ⟨σ, rfl, r, h, fun _ _ _ => rfl⟩
