/-! who, grids, which: the calls -/
theorem fnd_12 {σ : mmSt} {r i n : Int} (h : ¬ fndC σ r i n = 0) : fndC σ r i n = 1 ∨ fndC σ r i n = 2 := by
  unfold fndC at h ⊢
  split
  · exact .inl rfl
  · rename_i c
    rw [if_neg c] at h
    split
    · rename_i c2; rw [if_pos c2] at h; exact absurd rfl h
    · exact .inr rfl
theorem k_137 (Ln : Nat) : ck_137 Rel Ln := fun r i n _ vi _ => cok_r (fun σ hR => by
  have wr := hR.2.2.1
  obtain ⟨C, ⟨h, h', hc⟩, _⟩ := hR.2.2.2.1
  have b := now_b hc
  have hm := thr h'
  obtain ⟨bk1, bk2, bk3⟩ := bad_ok wr
  rw [b_X_which, x_isTold c48 h (by omega)]
  simp only [Option.bind_some, dec0, dec1, x_isQuarrel c48 h b.2.2.2.2.1 (show C 2 0 ≤ 7 by omega) (show 2 ≤ 98 by omega), x_isRow (show 2 ≤ 98 by omega), x_within (show 1 ≤ 98 by omega)]
  cases hq : decide (0 < C 0 0)
  · refine ⟨-1000002, σ, mup σ 92 0 0, rfl, ?_, bk1, bk2, bk3⟩
    rw [b_M_which, m_isThere hm (by omega)]
    simp only [Option.bind_some, dec0, dec1, m_isQuarrel hm b.2.2.2.2.1 (show C 2 0 ≤ 7 by omega) (show 2 ≤ 98 by omega), m_isRow (show 2 ≤ 98 by omega), m_in (show 1 ≤ 98 by omega), hq]
    rfl
  cases hr : inB r 8
  · refine ⟨-1000001, σ, mup σ 92 0 0, rfl, ?_, bk1, bk2, bk3⟩
    rw [b_M_which, m_isThere hm (by omega)]
    simp only [Option.bind_some, dec0, dec1, m_isQuarrel hm b.2.2.2.2.1 (show C 2 0 ≤ 7 by omega) (show 2 ≤ 98 by omega), m_isRow (show 2 ≤ 98 by omega), m_in (show 1 ≤ 98 by omega), hq, hr]
    rfl
  cases hn : btB 1 n 12
  · refine ⟨-1000001, σ, mup σ 92 0 0, rfl, ?_, bk1, bk2, bk3⟩
    rw [b_M_which, m_isThere hm (by omega)]
    simp only [Option.bind_some, dec0, dec1, m_isQuarrel hm b.2.2.2.2.1 (show C 2 0 ≤ 7 by omega) (show 2 ≤ 98 by omega), m_isRow (show 2 ≤ 98 by omega), m_in (show 1 ≤ 98 by omega), hq, hr, hn]
    rfl
  have r1 := inB_t hr
  have n1 := btB_t hn
  have G := now_t hc hq
  have w := good_W G
  have a := row_at wr r1.1 r1.2
  rw [x_finding wr (by omega) r1.1 r1.2]
  simp only [Option.bind_some, Bool.not_true, Bool.not_false, cond_true, cond_false]
  by_cases hf : fndC σ r i n = 0
  · obtain ⟨i0, iN, hrow⟩ := rows_N hf a r1.1 r1.2 (by omega)
    obtain ⟨σa, ea, qa, ta⟩ := x_tell (Ln := Ln) (σ := σ) r1.1 r1.2 i0 iN (show 0 ≤ n by omega) n1.2 (show 1 ≤ 98 by omega)
    have ha : rep 12 (cX σa 48) C := rep_X_of (fun b j hb => qa b j (by unfold scr; omega)) h
    have hta : ∀ k : Int, 0 ≤ k → k < n → σa 68 (Int.toNat k) = (fun k => σ 95 (Int.toNat (40 * r + i + k))) k := fun k k0 k1 => (ta k k0 k1).trans (hrow k k0 k1)
    have mdl : ∀ σb, quiet σ σb → rep 12 (cM ((mup (mup σb 4 7 0) 92 0 0) 96)) C ∧ rep 12 (cM ((mup (mup (mup σb 4 7 0) 92 0 0) 92 1 0) 96)) C ∧ (∀ k : Int, 0 ≤ k → k < n → (mup (mup (mup σb 4 7 0) 92 0 0) 92 1 0) 95 (Int.toNat (40 * r + i + k)) = (fun k => σ 95 (Int.toNat (40 * r + i + k))) k) ∧ srun (lyT Ln) (98, 222, 0, [mR 92, mI r, mI i, mI n], [], mup (mup σb 4 7 0) 92 0 0) = some (mup (mup (mup σb 4 7 0) 92 0 0) 92 1 0, 0) := by
      intro σb qb
      refine ⟨rep_M_of (fun j => by rw [mup_ne (by omega), mup_ne (by omega), qb 96 j (by unfold scr; omega)]) h', rep_M_of (fun j => by rw [mup_ne (by omega), mup_ne (by omega), mup_ne (by omega), qb 96 j (by unfold scr; omega)]) h', fun k _ _ => by rw [mup_ne (by omega), mup_ne (by omega), mup_ne (by omega), qb 95 _ (by unfold scr; omega)], ?_⟩
      rw [m_rowFound r1.1 r1.2 (rowR_of (fun b j hb => by rw [mup_ne (by omega), mup_ne (by omega), qb b j (by unfold scr; omega)]) a) vi n1.1 n1.2 (by omega), fnd_of (σ := σ) (fun b j hb => by rw [mup_ne (by omega), mup_ne (by omega), qb b j (by unfold scr; omega)]), hf, if_pos rfl]
    rw [decide_eq_true hf, cond_true, ea, Option.bind_some]
    obtain ⟨σb, eb, fb⟩ := x_quarrelsF (Ln := Ln) (t := fun k => σ 95 (Int.toNat (40 * r + i + k))) w (show 0 ≤ n by omega) n1.2 (show 6 ≤ 98 by omega) ha hta
    have qb : quiet σ σb := quiet_trans qa (fr_quiet fb)
    obtain ⟨hmb, hmc, h95, er⟩ := mdl σb qb
    obtain ⟨σ2, e2, f2⟩ := m_whichF (Ln := Ln) (t := fun k => σ 95 (Int.toNat (40 * r + i + k))) (z6 := 0) w r1.1 r1.2 i0 iN (show 0 ≤ n by omega) n1.2 (Int.toNat (C 2 0)) 0 0 _ hmc h95 (by have := w.1; omega) (by omega) v0
    obtain ⟨s1, s2, s3⟩ := stat_ok (v := 0) wr qb (frM_quiet f2)
    refine ⟨setL (fun v => fitL (fun k => σ 95 (Int.toNat (40 * r + i + k))) v (Int.toNat n) 0 (zt C)) (Int.toNat (C 2 0)) 0 0, mup σb 4 7 0, σ2, ?_, ?_, s1, s2, s3⟩
    · simp only [eb, Option.bind_some, x_fine (show 1 ≤ 98 by omega)]
      all_goals rfl
    · rw [b_M_which, m_isThere hmb (by omega)]
      simp only [Option.bind_some, dec0, dec1, m_isQuarrel hmb b.2.2.2.2.1 (show C 2 0 ≤ 7 by omega) (show 2 ≤ 98 by omega), m_isRow (show 2 ≤ 98 by omega), m_in (show 1 ≤ 98 by omega), hq, hr, hn, Bool.not_true, Bool.not_false, cond_true, cond_false, er]
      exact e2
  · have hf2 := fnd_12 hf
    have hmb : rep 12 (cM ((mup (mup σ 4 7 (fndC σ r i n)) 92 0 0) 96)) C := rep_M_of (fun j => by rw [mup_ne (by omega), mup_ne (by omega)]) h'
    have er : srun (lyT Ln) (98, 222, 0, [mR 92, mI r, mI i, mI n], [], mup (mup σ 4 7 (fndC σ r i n)) 92 0 0) = some (mup (mup (mup σ 4 7 (fndC σ r i n)) 92 0 0) 92 1 (fndC σ r i n), mwrap (-1000010 - fndC σ r i n)) := by
      rw [m_rowFound r1.1 r1.2 (rowR_of (fun b j hb => by rw [mup_ne (by omega), mup_ne (by omega)]) a) vi n1.1 n1.2 (by omega), fnd_of (σ := σ) (σ' := mup (mup σ 4 7 (fndC σ r i n)) 92 0 0) (fun b j hb => by rw [mup_ne (by omega), mup_ne (by omega)]), if_neg hf]
    obtain ⟨s1, s2, s3⟩ := stat_ok (v := fndC σ r i n) wr (quiet_rfl σ) (quiet_rfl _)
    refine ⟨mwrap (-1000010 - fndC σ r i n), mup σ 4 7 (fndC σ r i n), _, ?_, ?_, s1, s2, s3⟩
    · rw [decide_eq_false hf]
      simp only [cond_false, Option.bind_some, x_found (show 1 ≤ 98 by omega)]
    · rw [b_M_which, m_isThere hmb (by omega)]
      simp only [Option.bind_some, dec0, dec1, m_isQuarrel hmb b.2.2.2.2.1 (show C 2 0 ≤ 7 by omega) (show 2 ≤ 98 by omega), m_isRow (show 2 ≤ 98 by omega), m_in (show 1 ≤ 98 by omega), hq, hr, hn, Bool.not_true, Bool.not_false, cond_true, cond_false, er]
      rw [decide_eq_false (show ¬ mwrap (-1000010 - fndC σ r i n) = 0 by rw [mw (by omega) (by omega)]; omega)]
      rfl)
theorem k_136 (Ln : Nat) : ck_136 Rel Ln := fun p q r i n _ _ _ vi _ => cok_r (fun σ hR => by
  have wr := hR.2.2.1
  obtain ⟨C, ⟨h, h', hc⟩, _⟩ := hR.2.2.2.1
  have b := now_b hc
  have hm := thr h'
  obtain ⟨bk1, bk2, bk3⟩ := bad_ok wr
  rw [b_X_grids, x_isRoad c48 h (by omega) (by omega) (by omega)]
  simp only [Option.bind_some, dec0, dec1, x_isQuarrel c48 h b.2.2.2.2.1 (show C 2 0 ≤ 7 by omega) (show 2 ≤ 98 by omega), x_isRow (show 2 ≤ 98 by omega), x_within (show 1 ≤ 98 by omega)]
  cases hq : inB p (C 1 0)
  · refine ⟨-1000001, σ, mup σ 92 0 0, rfl, ?_, bk1, bk2, bk3⟩
    rw [b_M_grids, m_isRoad hm (by omega) (by omega) (by omega)]
    simp only [Option.bind_some, dec0, dec1, m_isQuarrel hm b.2.2.2.2.1 (show C 2 0 ≤ 7 by omega) (show 2 ≤ 98 by omega), m_isRow (show 2 ≤ 98 by omega), m_in (show 1 ≤ 98 by omega), hq]
    rfl
  cases hp : inB q (C 2 0)
  · refine ⟨-1000001, σ, mup σ 92 0 0, rfl, ?_, bk1, bk2, bk3⟩
    rw [b_M_grids, m_isRoad hm (by omega) (by omega) (by omega)]
    simp only [Option.bind_some, dec0, dec1, m_isQuarrel hm b.2.2.2.2.1 (show C 2 0 ≤ 7 by omega) (show 2 ≤ 98 by omega), m_isRow (show 2 ≤ 98 by omega), m_in (show 1 ≤ 98 by omega), hq, hp]
    rfl
  cases hr : inB r 8
  · refine ⟨-1000001, σ, mup σ 92 0 0, rfl, ?_, bk1, bk2, bk3⟩
    rw [b_M_grids, m_isRoad hm (by omega) (by omega) (by omega)]
    simp only [Option.bind_some, dec0, dec1, m_isQuarrel hm b.2.2.2.2.1 (show C 2 0 ≤ 7 by omega) (show 2 ≤ 98 by omega), m_isRow (show 2 ≤ 98 by omega), m_in (show 1 ≤ 98 by omega), hq, hp, hr]
    rfl
  cases hn : btB 1 n 12
  · refine ⟨-1000001, σ, mup σ 92 0 0, rfl, ?_, bk1, bk2, bk3⟩
    rw [b_M_grids, m_isRoad hm (by omega) (by omega) (by omega)]
    simp only [Option.bind_some, dec0, dec1, m_isQuarrel hm b.2.2.2.2.1 (show C 2 0 ≤ 7 by omega) (show 2 ≤ 98 by omega), m_isRow (show 2 ≤ 98 by omega), m_in (show 1 ≤ 98 by omega), hq, hp, hr, hn]
    rfl
  have r1 := inB_t hr
  have n1 := btB_t hn
  have G := now_r hc hq
  have w := good_W G
  have a := row_at wr r1.1 r1.2
  have pp := inB_t hq
  have qq := inB_t hp
  rw [x_finding wr (by omega) r1.1 r1.2]
  simp only [Option.bind_some, Bool.not_true, Bool.not_false, cond_true, cond_false]
  by_cases hf : fndC σ r i n = 0
  · obtain ⟨i0, iN, hrow⟩ := rows_N hf a r1.1 r1.2 (by omega)
    obtain ⟨σa, ea, qa, ta⟩ := x_tell (Ln := Ln) (σ := σ) r1.1 r1.2 i0 iN (show 0 ≤ n by omega) n1.2 (show 1 ≤ 98 by omega)
    have ha : rep 12 (cX σa 48) C := rep_X_of (fun b j hb => qa b j (by unfold scr; omega)) h
    have hta : ∀ k : Int, 0 ≤ k → k < n → σa 68 (Int.toNat k) = (fun k => σ 95 (Int.toNat (40 * r + i + k))) k := fun k k0 k1 => (ta k k0 k1).trans (hrow k k0 k1)
    have mdl : ∀ σb, quiet σ σb → rep 12 (cM ((mup (mup σb 4 7 0) 92 0 0) 96)) C ∧ rep 12 (cM ((mup (mup (mup σb 4 7 0) 92 0 0) 92 1 0) 96)) C ∧ (∀ k : Int, 0 ≤ k → k < n → (mup (mup (mup σb 4 7 0) 92 0 0) 92 1 0) 95 (Int.toNat (40 * r + i + k)) = (fun k => σ 95 (Int.toNat (40 * r + i + k))) k) ∧ srun (lyT Ln) (98, 222, 0, [mR 92, mI r, mI i, mI n], [], mup (mup σb 4 7 0) 92 0 0) = some (mup (mup (mup σb 4 7 0) 92 0 0) 92 1 0, 0) := by
      intro σb qb
      refine ⟨rep_M_of (fun j => by rw [mup_ne (by omega), mup_ne (by omega), qb 96 j (by unfold scr; omega)]) h', rep_M_of (fun j => by rw [mup_ne (by omega), mup_ne (by omega), mup_ne (by omega), qb 96 j (by unfold scr; omega)]) h', fun k _ _ => by rw [mup_ne (by omega), mup_ne (by omega), mup_ne (by omega), qb 95 _ (by unfold scr; omega)], ?_⟩
      rw [m_rowFound r1.1 r1.2 (rowR_of (fun b j hb => by rw [mup_ne (by omega), mup_ne (by omega), qb b j (by unfold scr; omega)]) a) vi n1.1 n1.2 (by omega), fnd_of (σ := σ) (fun b j hb => by rw [mup_ne (by omega), mup_ne (by omega), qb b j (by unfold scr; omega)]), hf, if_pos rfl]
    rw [decide_eq_true hf, cond_true, ea, Option.bind_some]
    obtain ⟨σb, eb, fb⟩ := x_gridsF (Ln := Ln) (t := fun k => σ 95 (Int.toNat (40 * r + i + k))) w pp.1 pp.2 qq.1 qq.2 (show 0 ≤ n by omega) n1.2 (show 6 ≤ 98 by omega) ha hta
    have qb : quiet σ σb := quiet_trans qa (fr_quiet fb)
    obtain ⟨hmb, hmc, h95, er⟩ := mdl σb qb
    obtain ⟨σ2, e2, f2⟩ := m_gridsF (Ln := Ln) (t := fun k => σ 95 (Int.toNat (40 * r + i + k))) (z6 := 0) w pp.1 pp.2 qq.1 qq.2 r1.1 r1.2 i0 iN (show 0 ≤ n by omega) n1.2 10 0 0 _ hmc h95 (by omega) (by omega) v0
    obtain ⟨s1, s2, s3⟩ := stat_ok (v := 0) wr qb (frM_quiet f2)
    refine ⟨setL (fun v => fitL (fun k => σ 95 (Int.toNat (40 * r + i + k))) q (Int.toNat n) 0 (cup (zt C) 7 p v)) 10 0 0, mup σb 4 7 0, σ2, ?_, ?_, s1, s2, s3⟩
    · simp only [eb, Option.bind_some, x_fine (show 1 ≤ 98 by omega)]
      all_goals rfl
    · rw [b_M_grids, m_isRoad hmb (by omega) (by omega) (by omega)]
      simp only [Option.bind_some, dec0, dec1, m_isQuarrel hmb b.2.2.2.2.1 (show C 2 0 ≤ 7 by omega) (show 2 ≤ 98 by omega), m_isRow (show 2 ≤ 98 by omega), m_in (show 1 ≤ 98 by omega), hq, hp, hr, hn, Bool.not_true, Bool.not_false, cond_true, cond_false, er]
      exact e2
  · have hf2 := fnd_12 hf
    have hmb : rep 12 (cM ((mup (mup σ 4 7 (fndC σ r i n)) 92 0 0) 96)) C := rep_M_of (fun j => by rw [mup_ne (by omega), mup_ne (by omega)]) h'
    have er : srun (lyT Ln) (98, 222, 0, [mR 92, mI r, mI i, mI n], [], mup (mup σ 4 7 (fndC σ r i n)) 92 0 0) = some (mup (mup (mup σ 4 7 (fndC σ r i n)) 92 0 0) 92 1 (fndC σ r i n), mwrap (-1000010 - fndC σ r i n)) := by
      rw [m_rowFound r1.1 r1.2 (rowR_of (fun b j hb => by rw [mup_ne (by omega), mup_ne (by omega)]) a) vi n1.1 n1.2 (by omega), fnd_of (σ := σ) (σ' := mup (mup σ 4 7 (fndC σ r i n)) 92 0 0) (fun b j hb => by rw [mup_ne (by omega), mup_ne (by omega)]), if_neg hf]
    obtain ⟨s1, s2, s3⟩ := stat_ok (v := fndC σ r i n) wr (quiet_rfl σ) (quiet_rfl _)
    refine ⟨mwrap (-1000010 - fndC σ r i n), mup σ 4 7 (fndC σ r i n), _, ?_, ?_, s1, s2, s3⟩
    · rw [decide_eq_false hf]
      simp only [cond_false, Option.bind_some, x_found (show 1 ≤ 98 by omega)]
    · rw [b_M_grids, m_isRoad hmb (by omega) (by omega) (by omega)]
      simp only [Option.bind_some, dec0, dec1, m_isQuarrel hmb b.2.2.2.2.1 (show C 2 0 ≤ 7 by omega) (show 2 ≤ 98 by omega), m_isRow (show 2 ≤ 98 by omega), m_in (show 1 ≤ 98 by omega), hq, hp, hr, hn, Bool.not_true, Bool.not_false, cond_true, cond_false, er]
      rw [decide_eq_false (show ¬ mwrap (-1000010 - fndC σ r i n) = 0 by rw [mw (by omega) (by omega)]; omega)]
      rfl)
theorem k_135 (Ln : Nat) : ck_135 Rel Ln := fun q x r i n _ _ _ vi _ => cok_r (fun σ hR => by
  have wr := hR.2.2.1
  obtain ⟨C, ⟨h, h', hc⟩, _⟩ := hR.2.2.2.1
  have b := now_b hc
  have hm := thr h'
  obtain ⟨bk1, bk2, bk3⟩ := bad_ok wr
  rw [b_X_who, x_isQuarrel c48 h (by omega) (by omega) (by omega)]
  simp only [Option.bind_some, dec0, dec1, x_isQuarrel c48 h b.2.2.2.2.1 (show C 2 0 ≤ 7 by omega) (show 2 ≤ 98 by omega), x_isRow (show 2 ≤ 98 by omega), x_within (show 1 ≤ 98 by omega)]
  cases hq : inB q (C 2 0)
  · refine ⟨-1000001, σ, mup σ 92 0 0, rfl, ?_, bk1, bk2, bk3⟩
    rw [b_M_who, m_isQuarrel hm (by omega) (by omega) (by omega)]
    simp only [Option.bind_some, dec0, dec1, m_isQuarrel hm b.2.2.2.2.1 (show C 2 0 ≤ 7 by omega) (show 2 ≤ 98 by omega), m_isRow (show 2 ≤ 98 by omega), m_in (show 1 ≤ 98 by omega), hq]
    rfl
  cases hx : btB 0 x 2
  · refine ⟨-1000001, σ, mup σ 92 0 0, rfl, ?_, bk1, bk2, bk3⟩
    rw [b_M_who, m_isQuarrel hm (by omega) (by omega) (by omega)]
    simp only [Option.bind_some, dec0, dec1, m_isQuarrel hm b.2.2.2.2.1 (show C 2 0 ≤ 7 by omega) (show 2 ≤ 98 by omega), m_isRow (show 2 ≤ 98 by omega), m_in (show 1 ≤ 98 by omega), hq, hx]
    rfl
  cases hr : inB r 8
  · refine ⟨-1000001, σ, mup σ 92 0 0, rfl, ?_, bk1, bk2, bk3⟩
    rw [b_M_who, m_isQuarrel hm (by omega) (by omega) (by omega)]
    simp only [Option.bind_some, dec0, dec1, m_isQuarrel hm b.2.2.2.2.1 (show C 2 0 ≤ 7 by omega) (show 2 ≤ 98 by omega), m_isRow (show 2 ≤ 98 by omega), m_in (show 1 ≤ 98 by omega), hq, hx, hr]
    rfl
  cases hn : btB 1 n 12
  · refine ⟨-1000001, σ, mup σ 92 0 0, rfl, ?_, bk1, bk2, bk3⟩
    rw [b_M_who, m_isQuarrel hm (by omega) (by omega) (by omega)]
    simp only [Option.bind_some, dec0, dec1, m_isQuarrel hm b.2.2.2.2.1 (show C 2 0 ≤ 7 by omega) (show 2 ≤ 98 by omega), m_isRow (show 2 ≤ 98 by omega), m_in (show 1 ≤ 98 by omega), hq, hx, hr, hn]
    rfl
  have r1 := inB_t hr
  have n1 := btB_t hn
  have G := now_q hc hq
  have w := good_W G
  have a := row_at wr r1.1 r1.2
  have qq := inB_t hq
  have xx := btB_t hx
  simp only [x_dead (⟨c48, h, w⟩ : KX σ 48 C) (show 1 ≤ 98 by omega) qq.1 qq.2, Option.bind_some, dec0]
  cases hd : deadB C q
  rotate_left
  · refine ⟨-1000002, σ, mup σ 92 0 0, rfl, ?_, bk1, bk2, bk3⟩
    rw [b_M_who, m_isQuarrel hm (by omega) (by omega) (by omega)]
    simp only [Option.bind_some, dec0, dec1, m_isRow (show 2 ≤ 98 by omega), m_in (show 1 ≤ 98 by omega), hq, hx, hr, hn, Bool.not_true, cond_true, cond_false, m_alive (⟨.inl rfl, hm, w⟩ : KM _ 96 C) (show 2 ≤ 98 by omega) qq.1 qq.2, hd]
  rw [x_finding wr (by omega) r1.1 r1.2]
  simp only [Option.bind_some, Bool.not_true, Bool.not_false, cond_true, cond_false]
  by_cases hf : fndC σ r i n = 0
  · obtain ⟨i0, iN, hrow⟩ := rows_N hf a r1.1 r1.2 (by omega)
    obtain ⟨σa, ea, qa, ta⟩ := x_tell (Ln := Ln) (σ := σ) r1.1 r1.2 i0 iN (show 0 ≤ n by omega) n1.2 (show 1 ≤ 98 by omega)
    have ha : rep 12 (cX σa 48) C := rep_X_of (fun b j hb => qa b j (by unfold scr; omega)) h
    have hta : ∀ k : Int, 0 ≤ k → k < n → σa 68 (Int.toNat k) = (fun k => σ 95 (Int.toNat (40 * r + i + k))) k := fun k k0 k1 => (ta k k0 k1).trans (hrow k k0 k1)
    have mdl : ∀ σb, quiet σ σb → rep 12 (cM ((mup (mup σb 4 7 0) 92 0 0) 96)) C ∧ rep 12 (cM ((mup (mup (mup σb 4 7 0) 92 0 0) 92 1 0) 96)) C ∧ (∀ k : Int, 0 ≤ k → k < n → (mup (mup (mup σb 4 7 0) 92 0 0) 92 1 0) 95 (Int.toNat (40 * r + i + k)) = (fun k => σ 95 (Int.toNat (40 * r + i + k))) k) ∧ srun (lyT Ln) (98, 222, 0, [mR 92, mI r, mI i, mI n], [], mup (mup σb 4 7 0) 92 0 0) = some (mup (mup (mup σb 4 7 0) 92 0 0) 92 1 0, 0) := by
      intro σb qb
      refine ⟨rep_M_of (fun j => by rw [mup_ne (by omega), mup_ne (by omega), qb 96 j (by unfold scr; omega)]) h', rep_M_of (fun j => by rw [mup_ne (by omega), mup_ne (by omega), mup_ne (by omega), qb 96 j (by unfold scr; omega)]) h', fun k _ _ => by rw [mup_ne (by omega), mup_ne (by omega), mup_ne (by omega), qb 95 _ (by unfold scr; omega)], ?_⟩
      rw [m_rowFound r1.1 r1.2 (rowR_of (fun b j hb => by rw [mup_ne (by omega), mup_ne (by omega), qb b j (by unfold scr; omega)]) a) vi n1.1 n1.2 (by omega), fnd_of (σ := σ) (fun b j hb => by rw [mup_ne (by omega), mup_ne (by omega), qb b j (by unfold scr; omega)]), hf, if_pos rfl]
    rw [decide_eq_true hf, cond_true, ea, Option.bind_some]
    have hy : x = 0 ∨ x = 1 ∨ x = 2 := by omega
    rcases hy with rfl | rfl | rfl
    · skip
      obtain ⟨σb, eb, fb⟩ := x_kinds (Ln := Ln) (t := fun k => σ 95 (Int.toNat (40 * r + i + k))) w qq.1 qq.2 (show 0 ≤ n by omega) n1.2 (show 6 ≤ 98 by omega) ha hta
      have qb : quiet σ σb := quiet_trans qa (fr_quiet fb)
      obtain ⟨hmb, hmc, h95, er⟩ := mdl σb qb
      obtain ⟨σ2, e2, f2⟩ := m_who0 (Ln := Ln) (t := fun k => σ 95 (Int.toNat (40 * r + i + k))) (z6 := 0) w qq.1 qq.2 r1.1 r1.2 i0 iN (show 0 ≤ n by omega) n1.2 5 1 0 _ hmc h95 (by omega) (by omega) v0
      obtain ⟨s1, s2, s3⟩ := stat_ok (v := 0) wr qb (frM_quiet f2)
      refine ⟨setL (fun v => fitL (fun k => σ 95 (Int.toNat (40 * r + i + k))) q (Int.toNat n) 0 (cup (zt C) 8 q v)) 5 1 0, mup σb 4 7 0, σ2, ?_, ?_, s1, s2, s3⟩
      · simp only [eb, Option.bind_some, x_fine (show 1 ≤ 98 by omega)]
        all_goals rfl
      · rw [b_M_who, m_isQuarrel hmb (by omega) (by omega) (by omega)]
        simp only [Option.bind_some, dec0, dec1, m_isQuarrel hmb b.2.2.2.2.1 (show C 2 0 ≤ 7 by omega) (show 2 ≤ 98 by omega), m_isRow (show 2 ≤ 98 by omega), m_in (show 1 ≤ 98 by omega), hq, hx, hr, hn, hd, Bool.not_true, Bool.not_false, cond_true, cond_false, m_alive (⟨.inl rfl, hmb, w⟩ : KM _ 96 C) (show 2 ≤ 98 by omega) qq.1 qq.2, er]
        exact e2
    · skip
      obtain ⟨σb, eb, fb⟩ := x_sizes (Ln := Ln) (t := fun k => σ 95 (Int.toNat (40 * r + i + k))) w qq.1 qq.2 (show 0 ≤ n by omega) n1.2 (show 6 ≤ 98 by omega) ha hta
      have qb : quiet σ σb := quiet_trans qa (fr_quiet fb)
      obtain ⟨hmb, hmc, h95, er⟩ := mdl σb qb
      obtain ⟨σ2, e2, f2⟩ := m_who1 (Ln := Ln) (t := fun k => σ 95 (Int.toNat (40 * r + i + k))) (z6 := 0) w qq.1 qq.2 r1.1 r1.2 i0 iN (show 0 ≤ n by omega) n1.2 9 1 0 _ hmc h95 (by omega) (by omega) v0
      obtain ⟨s1, s2, s3⟩ := stat_ok (v := 0) wr qb (frM_quiet f2)
      refine ⟨setL (fun v => fitL (fun k => σ 95 (Int.toNat (40 * r + i + k))) q (Int.toNat n) 0 (cup (zt C) 10 q v)) 9 1 0, mup σb 4 7 0, σ2, ?_, ?_, s1, s2, s3⟩
      · simp only [eb, Option.bind_some, x_fine (show 1 ≤ 98 by omega)]
        all_goals rfl
      · rw [b_M_who, m_isQuarrel hmb (by omega) (by omega) (by omega)]
        simp only [Option.bind_some, dec0, dec1, m_isQuarrel hmb b.2.2.2.2.1 (show C 2 0 ≤ 7 by omega) (show 2 ≤ 98 by omega), m_isRow (show 2 ≤ 98 by omega), m_in (show 1 ≤ 98 by omega), hq, hx, hr, hn, hd, Bool.not_true, Bool.not_false, cond_true, cond_false, m_alive (⟨.inl rfl, hmb, w⟩ : KM _ 96 C) (show 2 ≤ 98 by omega) qq.1 qq.2, er]
        exact e2
    · skip
      obtain ⟨σb, eb, fb⟩ := x_places (Ln := Ln) (t := fun k => σ 95 (Int.toNat (40 * r + i + k))) w qq.1 qq.2 (show 0 ≤ n by omega) n1.2 (show 6 ≤ 98 by omega) ha hta
      have qb : quiet σ σb := quiet_trans qa (fr_quiet fb)
      obtain ⟨hmb, hmc, h95, er⟩ := mdl σb qb
      obtain ⟨σ2, e2, f2⟩ := m_who2 (Ln := Ln) (t := fun k => σ 95 (Int.toNat (40 * r + i + k))) (z6 := 0) w qq.1 qq.2 r1.1 r1.2 i0 iN (show 0 ≤ n by omega) n1.2 (Int.toNat (C 0 0)) 0 0 _ hmc h95 (by have := w.1; omega) (by omega) v0
      obtain ⟨s1, s2, s3⟩ := stat_ok (v := 0) wr qb (frM_quiet f2)
      refine ⟨setL (fun v => fitL (fun k => σ 95 (Int.toNat (40 * r + i + k))) q (Int.toNat n) 0 (cup (zt C) 9 q v)) (Int.toNat (C 0 0)) 0 0, mup σb 4 7 0, σ2, ?_, ?_, s1, s2, s3⟩
      · simp only [eb, Option.bind_some, x_fine (show 1 ≤ 98 by omega)]
        all_goals rfl
      · rw [b_M_who, m_isQuarrel hmb (by omega) (by omega) (by omega)]
        simp only [Option.bind_some, dec0, dec1, m_isQuarrel hmb b.2.2.2.2.1 (show C 2 0 ≤ 7 by omega) (show 2 ≤ 98 by omega), m_isRow (show 2 ≤ 98 by omega), m_in (show 1 ≤ 98 by omega), hq, hx, hr, hn, hd, Bool.not_true, Bool.not_false, cond_true, cond_false, m_alive (⟨.inl rfl, hmb, w⟩ : KM _ 96 C) (show 2 ≤ 98 by omega) qq.1 qq.2, er]
        exact e2
  · have hf2 := fnd_12 hf
    have hmb : rep 12 (cM ((mup (mup σ 4 7 (fndC σ r i n)) 92 0 0) 96)) C := rep_M_of (fun j => by rw [mup_ne (by omega), mup_ne (by omega)]) h'
    have er : srun (lyT Ln) (98, 222, 0, [mR 92, mI r, mI i, mI n], [], mup (mup σ 4 7 (fndC σ r i n)) 92 0 0) = some (mup (mup (mup σ 4 7 (fndC σ r i n)) 92 0 0) 92 1 (fndC σ r i n), mwrap (-1000010 - fndC σ r i n)) := by
      rw [m_rowFound r1.1 r1.2 (rowR_of (fun b j hb => by rw [mup_ne (by omega), mup_ne (by omega)]) a) vi n1.1 n1.2 (by omega), fnd_of (σ := σ) (σ' := mup (mup σ 4 7 (fndC σ r i n)) 92 0 0) (fun b j hb => by rw [mup_ne (by omega), mup_ne (by omega)]), if_neg hf]
    obtain ⟨s1, s2, s3⟩ := stat_ok (v := fndC σ r i n) wr (quiet_rfl σ) (quiet_rfl _)
    refine ⟨mwrap (-1000010 - fndC σ r i n), mup σ 4 7 (fndC σ r i n), _, ?_, ?_, s1, s2, s3⟩
    · rw [decide_eq_false hf]
      simp only [cond_false, Option.bind_some, x_found (show 1 ≤ 98 by omega)]
    · rw [b_M_who, m_isQuarrel hmb (by omega) (by omega) (by omega)]
      simp only [Option.bind_some, dec0, dec1, m_isQuarrel hmb b.2.2.2.2.1 (show C 2 0 ≤ 7 by omega) (show 2 ≤ 98 by omega), m_isRow (show 2 ≤ 98 by omega), m_in (show 1 ≤ 98 by omega), hq, hx, hr, hn, hd, Bool.not_true, Bool.not_false, cond_true, cond_false, m_alive (⟨.inl rfl, hmb, w⟩ : KM _ 96 C) (show 2 ≤ 98 by omega) qq.1 qq.2, er]
      rw [decide_eq_false (show ¬ mwrap (-1000010 - fndC σ r i n) = 0 by rw [mw (by omega) (by omega)]; omega)]
      rfl)
