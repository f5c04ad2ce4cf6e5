/-! county: the model reads a quarrel -/
theorem m_kind {Ln : Nat} {σ : mmSt} {D : Nat} (hD : 1 ≤ D) (x : Int) : srun (lyT Ln) (D, 173, 0, [mI x], [], σ) = some (σ, if kdC x = 0 then -1000000 else kdC x) := by
  obtain ⟨d, rfl⟩ := Nat.exists_eq_add_of_le' hD
  rw [b_M_kindBy]
  by_cases c1 : x = 112
  · subst c1; rfl
  by_cases c2 : x = 116
  · subst c2; rfl
  by_cases c3 : x = 107
  · subst c3; rfl
  by_cases c4 : x = 98
  · subst c4; rfl
  by_cases c5 : x = 109
  · subst c5; rfl
  have k : kdC x = 0 := by unfold kdC; rw [if_neg c4, if_neg c3, if_neg c5, if_neg c1, if_neg c2]
  rw [k, if_pos rfl, decide_eq_true c1, decide_eq_true c2, decide_eq_true c3, decide_eq_true c4, decide_eq_true c5]; rfl
theorem m_sort {Ln : Nat} {n : Int} {tp : Nat → Int} {σ : mmSt} {s : Int × Int} (r : RM n tp σ s) {D : Nat} (hD : 2 ≤ D) : srun (lyT Ln) (D, 174, 0, [mR 92], [], σ) = some (σ, if s.1 = 0 ∧ kdC ((byB n tp) s.2) ≠ 0 then 1 else 0) := by
  obtain ⟨d, rfl⟩ := Nat.exists_eq_add_of_le' hD
  rw [b_M_isSort, m_kind (by omega), Option.bind_some, r.2.1]
  by_cases h : s.1 = 0
  · obtain ⟨_, h14, h15, _⟩ := r.2.2.2.1 h
    rw [decide_eq_false (show ¬ ¬ s.1 = 0 by omega), cond_false, h14, h15]
    by_cases k : kdC ((byB n tp) s.2) = 0
    · rw [if_neg (show ¬ (s.1 = 0 ∧ kdC ((byB n tp) s.2) ≠ 0) from fun q => q.2 k)]
      by_cases t2 : tokV (byB n tp) n s.2 = 2
      · have v : (byB n tp) s.2 = valV (byB n tp) n s.2 := by
          have : ∃ c, 97 ≤ c ∧ c ≤ 122 ∧ (byB n tp) s.2 = c := by
            unfold tokV at t2
            by_cases e : s.2 = n
            · rw [if_pos e] at t2; omega
            · rw [if_neg e] at t2
              cases ha : btB 97 ((byB n tp) s.2) 122 with
              | true => exact ⟨_, (btB_t ha).1, (btB_t ha).2, rfl⟩
              | false =>
                exfalso
                revert t2
                rw [ha, if_neg (by decide)]
                split
                · split <;> omega
                · split <;> omega
          obtain ⟨c, c0, c1, e⟩ := this
          exact e.trans ((tok_ltr c0 c1).mpr e).2.symm
        rw [decide_eq_false (show ¬ ¬ tokV (byB n tp) n s.2 = 2 by omega), cond_false, ← v, if_pos k]; rfl
      · rw [decide_eq_true t2]; rfl
    · have ki := kd_in ((byB n tp) s.2)
      have T := (tok_ltr (n := n) (tp := tp) (p := s.2) (c := (byB n tp) s.2) (by have := ki.2.2 k; omega) (by have := ki.2.2 k; omega)).mpr rfl
      rw [if_pos (show s.1 = 0 ∧ kdC ((byB n tp) s.2) ≠ 0 from ⟨h, k⟩), T.1, T.2, decide_eq_false (show ¬ ¬ (2 : Int) = 2 by omega), cond_false, if_neg k]
      show (bif decide (kdC ((byB n tp) s.2) = -1000000) then some (σ, 0) else some (σ, 1)) = _
      rw [decide_eq_false (by omega)]; rfl
  · rw [decide_eq_true h, if_neg (show ¬ (s.1 = 0 ∧ kdC ((byB n tp) s.2) ≠ 0) from fun q => h q.1)]; rfl
theorem m_quarT {Ln d : Nat} {n : Int} {tp : Nat → Int} (ht : ∀ j : Nat, (j : Int) < n → 0 ≤ tp j ∧ tp j ≤ 255) (hn : n ≤ 120) (hd : 4 ≤ d) {D : Cty} (b0 : 0 ≤ D 0 0) (b7 : D 0 0 ≤ 7) (r7 : D 1 0 ≤ 7) (r0 : 0 ≤ D 2 0) {σ2 : mmSt} {s0 : Int × Int} {k : Int} (r : RM n tp σ2 (soS (byB n tp) s0)) (h : rep 12 (cM (σ2 97)) D) (h7 : (quE (byB n tp) n (D 0 0) s0).1 = 0 → D 2 0 < 5) : ∃ σ', ((Option.bind (srun (lyT Ln) (d, 168, 0, [mR 92, mI 0, mI (mwrap ((σ2 97 0) - 1)), mJ], [], σ2)) (fun y3 =>
  (Option.bind (srun (lyT Ln) (d, 169, 0, [mR 92, mI 44], [], y3.1)) (fun y4 =>
  (Option.bind (srun (lyT Ln) (d, 168, 0, [mR 92, mI 1, mI 9, mJ], [], y4.1)) (fun y5 =>
  (Option.bind (srun (lyT Ln) (d, 169, 0, [mR 92, mI 44], [], y5.1)) (fun y6 =>
  (Option.bind (srun (lyT Ln) (d, 168, 0, [mR 92, mI 0, mI (mwrap ((y6.1 97 0) - 1)), mJ], [], y6.1)) (fun y7 =>
  (Option.bind (srun (lyT Ln) (d, 169, 0, [mR 92, mI 59], [], y7.1)) (fun y8 =>
  (bif decide (¬ (y8.1 92 16) = 0) then
   some (y8.1, 0)
  else
   (bif minb (mwrap (32 + (mwrap (4 * (y8.1 97 2))))) 52 then
   (bif minb (mwrap ((mwrap (32 + (mwrap (4 * (y8.1 97 2))))) + 1)) 52 then
   (bif minb (mwrap ((mwrap (32 + (mwrap (4 * (y8.1 97 2))))) + 2)) 52 then
   (bif minb (mwrap ((mwrap (32 + (mwrap (4 * (y8.1 97 2))))) + 3)) 52 then
   some ((mup (mup (mup (mup (mup y8.1 97 (Int.toNat (mwrap (32 + (mwrap (4 * (y8.1 97 2)))))) k) 97 (Int.toNat (mwrap ((mwrap (32 + (mwrap (4 * (y8.1 97 2))))) + 1))) y3.2) 97 (Int.toNat (mwrap ((mwrap (32 + (mwrap (4 * (y8.1 97 2))))) + 2))) y5.2) 97 (Int.toNat (mwrap ((mwrap (32 + (mwrap (4 * (y8.1 97 2))))) + 3))) y7.2) 97 2 (mwrap (((mup (mup (mup (mup y8.1 97 (Int.toNat (mwrap (32 + (mwrap (4 * (y8.1 97 2)))))) k) 97 (Int.toNat (mwrap ((mwrap (32 + (mwrap (4 * (y8.1 97 2))))) + 1))) y3.2) 97 (Int.toNat (mwrap ((mwrap (32 + (mwrap (4 * (y8.1 97 2))))) + 2))) y5.2) 97 (Int.toNat (mwrap ((mwrap (32 + (mwrap (4 * (y8.1 97 2))))) + 3))) y7.2) 97 2) + 1))), 0)
   else none)
   else none)
   else none)
   else none)))))))))))))) : Option mmY) = some (σ', 0) ∧ RM n tp σ' (quE (byB n tp) n (D 0 0) s0) ∧ rep 12 (cM (σ' 97)) (if (quE (byB n tp) n (D 0 0) s0).1 = 0 then addQ D k (quA (byB n tp) n (D 0 0) s0).1 (quZ (byB n tp) n (D 0 0) s0).1 (quB (byB n tp) n (D 0 0) s0).1 else D) ∧ frL σ2 σ' := by
  have p2 : σ2 97 0 = D 0 0 := m0 h
  obtain ⟨σ3, a, e3, r3, ha, f3⟩ := m_num (Ln := Ln) ht hn r hd 0 (D 0 0 - 1) (-1000000) (fun _ _ => num_no ht _)
  obtain ⟨σ4, e4, r4, f4⟩ := m_sgn (Ln := Ln) ht hn r3 hd (show (44 : Int) = 44 ∨ (44 : Int) = 59 by omega)
  obtain ⟨σ5, z, e5, r5, hz, f5⟩ := m_num (Ln := Ln) ht hn r4 hd 1 9 (-1000000) (fun _ _ => num_no ht _)
  obtain ⟨σ6, e6, r6, f6⟩ := m_sgn (Ln := Ln) ht hn r5 hd (show (44 : Int) = 44 ∨ (44 : Int) = 59 by omega)
  have f26 : frK σ2 σ6 := frK_trans f3 (frK_trans f4 (frK_trans f5 f6))
  have p6 : σ6 97 0 = D 0 0 := (f26 97 0 (by omega)).trans p2
  obtain ⟨σ7, b, e7, r7', hb, f7⟩ := m_num (Ln := Ln) ht hn r6 hd 0 (D 0 0 - 1) (-1000000) (fun _ _ => num_no ht _)
  obtain ⟨σ8, e8, r8, f8⟩ := m_sgn (Ln := Ln) ht hn r7' hd (show (59 : Int) = 44 ∨ (59 : Int) = 59 by omega)
  have f28 : frK σ2 σ8 := frK_trans f26 (frK_trans f7 f8)
  have r8' : RM n tp σ8 (quE (byB n tp) n (D 0 0) s0) := r8
  have hr : rep 12 (cM (σ8 97)) D := by rw [frK_97 f28]; exact h
  simp only [p2, mw (show -2147483648 ≤ D 0 0 - 1 by omega) (show D 0 0 - 1 < 2147483648 by omega), e3, e4, e5, e6, p6, e7, e8, Option.bind_some]
  by_cases hE : (quE (byB n tp) n (D 0 0) s0).1 = 0
  · have k5 := h7 hE
    have z7 : (quB (byB n tp) n (D 0 0) s0).2.1 = 0 := ex_ok (c := 59) hE
    have z5 : (quZ (byB n tp) n (D 0 0) s0).2.1 = 0 := ex_ok (c := 44) (nu_ok (lo := 0) (hi := D 0 0 - 1) (bar := -1000000) z7).1
    have z3 : (quA (byB n tp) n (D 0 0) s0).2.1 = 0 := ex_ok (c := 44) (nu_ok (lo := 1) (hi := 9) (bar := -1000000) z5).1
    rw [decide_eq_false (show ¬ ¬ σ8 92 16 = 0 by rw [r8'.2.1]; omega), cond_false, if_pos hE]
    simp (discharger := omega) only [m2 hr, mup_ne, mw, minb_t (n := 52), cond_true]
    refine ⟨_, rfl, RM_L r8' (fun b j q => by simp (discharger := omega) only [mup_ne]), ?_, fun b j q => ?_⟩
    · rw [ha z3, hz z5, hb z7]
      exact m_addQ hr r0 k5 r7 _ _ _ _
    · rw [mup_ne (by omega), mup_ne (by omega), mup_ne (by omega), mup_ne (by omega), mup_ne (by omega)]; exact f28 b j (by omega)
  · rw [decide_eq_true (show ¬ σ8 92 16 = 0 by rw [r8'.2.1]; exact hE), cond_true, if_neg hE]
    exact ⟨σ8, rfl, r8', hr, frK_L f28⟩
theorem m_quar {Ln dp : Nat} {n : Int} {tp : Nat → Int} (ht : ∀ j : Nat, (j : Int) < n → 0 ≤ tp j ∧ tp j ≤ 255) (hn : n ≤ 120) (hD : 5 ≤ dp) {D : Cty} (pd : PD D) {σ : mmSt} {s : Int × Int} (r : RM n tp σ s) (h : rep 12 (cM (σ 97)) D) (hs : s.1 = 0 ∧ kdC ((byB n tp) s.2) ≠ 0) : ∃ σ', srun (lyT Ln) (dp, 176, 0, [mR 92, mJ, mJ, mJ, mJ, mJ], [], σ) = some (σ', 0) ∧ RM n tp σ' (quarS (byB n tp) n D s).1 ∧ rep 12 (cM (σ' 97)) (quarS (byB n tp) n D s).2 ∧ frL σ σ' := by
  obtain ⟨d, rfl⟩ := Nat.exists_eq_add_of_le' hD
  have w := pd.1
  have ki := kd_in ((byB n tp) s.2)
  have kk := ki.2.2 hs.2
  have TL := (tok_ltr (n := n) (tp := tp) (p := s.2) (c := (byB n tp) s.2) (by omega) (by omega)).mpr rfl
  have h15 : σ 92 15 = (byB n tp) s.2 := (r.2.2.2.1 hs.1).2.2.1.trans TL.2
  have fin : ∀ σ1, RM n tp σ1 (qu0 (byB n tp) D s) → frK σ σ1 → ∃ σ2, srun (lyT Ln) (d + 4, 166, 0, [mR 92, mI 1], [], σ1) = some (σ2, 0) ∧ ∀ k, k = kdC ((byB n tp) s.2) → ∃ σ', ((Option.bind (srun (lyT Ln) (d + 4, 168, 0, [mR 92, mI 0, mI (mwrap ((σ2 97 0) - 1)), mJ], [], σ2)) (fun y3 =>
  (Option.bind (srun (lyT Ln) (d + 4, 169, 0, [mR 92, mI 44], [], y3.1)) (fun y4 =>
  (Option.bind (srun (lyT Ln) (d + 4, 168, 0, [mR 92, mI 1, mI 9, mJ], [], y4.1)) (fun y5 =>
  (Option.bind (srun (lyT Ln) (d + 4, 169, 0, [mR 92, mI 44], [], y5.1)) (fun y6 =>
  (Option.bind (srun (lyT Ln) (d + 4, 168, 0, [mR 92, mI 0, mI (mwrap ((y6.1 97 0) - 1)), mJ], [], y6.1)) (fun y7 =>
  (Option.bind (srun (lyT Ln) (d + 4, 169, 0, [mR 92, mI 59], [], y7.1)) (fun y8 =>
  (bif decide (¬ (y8.1 92 16) = 0) then
   some (y8.1, 0)
  else
   (bif minb (mwrap (32 + (mwrap (4 * (y8.1 97 2))))) 52 then
   (bif minb (mwrap ((mwrap (32 + (mwrap (4 * (y8.1 97 2))))) + 1)) 52 then
   (bif minb (mwrap ((mwrap (32 + (mwrap (4 * (y8.1 97 2))))) + 2)) 52 then
   (bif minb (mwrap ((mwrap (32 + (mwrap (4 * (y8.1 97 2))))) + 3)) 52 then
   some ((mup (mup (mup (mup (mup y8.1 97 (Int.toNat (mwrap (32 + (mwrap (4 * (y8.1 97 2)))))) k) 97 (Int.toNat (mwrap ((mwrap (32 + (mwrap (4 * (y8.1 97 2))))) + 1))) y3.2) 97 (Int.toNat (mwrap ((mwrap (32 + (mwrap (4 * (y8.1 97 2))))) + 2))) y5.2) 97 (Int.toNat (mwrap ((mwrap (32 + (mwrap (4 * (y8.1 97 2))))) + 3))) y7.2) 97 2 (mwrap (((mup (mup (mup (mup y8.1 97 (Int.toNat (mwrap (32 + (mwrap (4 * (y8.1 97 2)))))) k) 97 (Int.toNat (mwrap ((mwrap (32 + (mwrap (4 * (y8.1 97 2))))) + 1))) y3.2) 97 (Int.toNat (mwrap ((mwrap (32 + (mwrap (4 * (y8.1 97 2))))) + 2))) y5.2) 97 (Int.toNat (mwrap ((mwrap (32 + (mwrap (4 * (y8.1 97 2))))) + 3))) y7.2) 97 2) + 1))), 0)
   else none)
   else none)
   else none)
   else none)))))))))))))) : Option mmY) = some (σ', 0) ∧ RM n tp σ' (quarS (byB n tp) n D s).1 ∧ rep 12 (cM (σ' 97)) (quarS (byB n tp) n D s).2 ∧ frL σ σ' := by
    intro σ1 r1 f1
    obtain ⟨σ2, e2, r2, f2⟩ := m_must (Ln := Ln) ht hn r1 (show 3 ≤ d + 4 by omega) 1
    have e : muS (byB n tp) n 1 (qu0 (byB n tp) D s) = soS (byB n tp) (qu0 (byB n tp) D s) := by
      unfold muS soS
      rw [qu0_2, if_neg (show ¬ (1 : Int) = 0 by omega), if_neg hs.2, nx_plain (by omega) (dig_no (by omega))]
    rw [e] at r2
    refine ⟨σ2, e2, fun k hk => ?_⟩
    obtain ⟨σ', e, r', h', f'⟩ := m_quarT (Ln := Ln) (d := d + 4) (k := k) ht hn (by omega) (show 0 ≤ D 0 0 by omega) (by omega) (by omega) (by omega) r2 (by rw [frK_97 f2, frK_97 f1]; exact h) (fun q => (quar_ok (B := (byB n tp)) (n := n) (D := D) (s := s) q pd).2.2.1)
    rw [hk] at h'
    exact ⟨σ', e, r', h', frL_trans (frK_L (frK_trans f1 f2)) f'⟩
  rw [b_M_readQuarrel, h15, m_kind (by omega), if_neg hs.2, Option.bind_some]
  simp only [m2 h]
  by_cases c7 : D 2 0 = 5
  · obtain ⟨σ1, e1, r1, f1⟩ := m_bad (Ln := Ln) r (show 1 ≤ d + 4 by omega) (show ¬ (3 : Int) = 0 by omega)
    have e0 : qu0 (byB n tp) D s = (3, s.2) := if_pos ⟨hs.1, hs.2, c7⟩
    rw [if_pos hs.1, ← e0] at r1
    obtain ⟨σ2, e2, k2⟩ := fin σ1 r1 f1
    rw [decide_eq_false (show ¬ ¬ D 2 0 = 5 by omega), cond_false, e1, Option.bind_some]
    simp only [e2, Option.bind_some]
    exact k2 _ rfl
  · have e0 : qu0 (byB n tp) D s = s := if_neg (fun q => c7 q.2.2)
    obtain ⟨σ2, e2, k2⟩ := fin σ (by rw [e0]; exact r) (frK_rfl _)
    rw [decide_eq_true c7, cond_true, e2, Option.bind_some]
    exact k2 _ rfl
