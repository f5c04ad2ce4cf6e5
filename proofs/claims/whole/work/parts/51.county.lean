/-! county: the model's call, and both -/
theorem m_c7 {Ln dp : Nat} (hD : 1 ≤ dp) : ∀ (m : Nat) (z : Int) (σ : mmSt), z + m = 52 → 0 ≤ z → ∃ σ', srun (lyT Ln) (dp, 177, 7, [mR 92, mI z, mJ], [], σ) = srun (lyT Ln) (dp, 177, 7, [mR 92, mI 52, mJ], [], σ') ∧ (∀ b j, b ≠ 97 → σ' b j = σ b j) ∧ ∀ j : Nat, z ≤ (j : Int) → j < 52 → σ' 97 j = 0 := by
  obtain ⟨d, rfl⟩ := Nat.exists_eq_add_of_le' hD
  have L : ∀ (m : Nat) (z : Int) (σ : mmSt), z + m = 52 → 0 ≤ z → ∃ σ', srun (lyT Ln) (d + 1, 177, 7, [mR 92, mI z, mJ], [], σ) = srun (lyT Ln) (d + 1, 177, 7, [mR 92, mI 52, mJ], [], σ') ∧ (∀ b j, b ≠ 97 → σ' b j = σ b j) ∧ ∀ j : Nat, (z ≤ (j : Int) → j < 52 → σ' 97 j = 0) ∧ ((j : Int) < z → σ' 97 j = σ 97 j) := by
    intro m
    induction m with
    | zero =>
      intro z σ e z0
      rw [show z = 52 by omega]
      exact ⟨σ, rfl, fun _ _ _ => rfl, fun j => ⟨fun a b => by omega, fun _ => rfl⟩⟩
    | succ m ih =>
      intro z σ e z0
      obtain ⟨σ', e1, f1, g1⟩ := ih (z + 1) (mup σ 97 (Int.toNat z) 0) (by omega) (by omega)
      refine ⟨σ', ?_, fun b j h => (f1 b j h).trans (mup_ne (by omega)), fun j => ⟨fun a b => ?_, fun a => ?_⟩⟩
      · rw [b_M_county_7, decide_eq_false (show ¬ 52 ≤ z by omega), cond_false, minb_t z0 (by omega), cond_true, mw (by omega) (by omega)]
        exact e1
      · by_cases c : (j : Int) = z
        · rw [(g1 j).2 (by omega), mup_ap, if_pos (by omega)]
        · exact (g1 j).1 (by omega) b
      · rw [(g1 j).2 (by omega), mup_ne (by omega)]
  intro m z σ e z0
  obtain ⟨σ', e1, f1, g1⟩ := L m z σ e z0
  exact ⟨σ', e1, f1, fun j => (g1 j).1⟩
theorem m_c43 {Ln dp : Nat} (hD : 1 ≤ dp) {v w : Int} : ∀ (m : Nat) (z : Int) (σ : mmSt), z + m = 7 → 0 ≤ z → σ 97 0 = v → ∃ σ', srun (lyT Ln) (dp, 177, 43, [mR 92, mI w, mI z], [], σ) = srun (lyT Ln) (dp, 177, 43, [mR 92, mI w, mI 7], [], σ') ∧ (∀ b j, ¬ (b = 97 ∧ 4 ≤ j ∧ j < 11) → σ' b j = σ b j) ∧ ∀ i : Int, (z ≤ i → i < 7 → σ' 97 (Int.toNat (4 + i)) = if i < v then w else 0) ∧ (0 ≤ i → i < z → σ' 97 (Int.toNat (4 + i)) = σ 97 (Int.toNat (4 + i))) := by
  obtain ⟨d, rfl⟩ := Nat.exists_eq_add_of_le' hD
  intro m
  induction m with
  | zero =>
    intro z σ e z0 h0
    rw [show z = 7 by omega]
    exact ⟨σ, rfl, fun _ _ _ => rfl, fun j => ⟨fun a b => by omega, fun _ _ => rfl⟩⟩
  | succ m ih =>
    intro z σ e z0 h0
    have F : ∀ u : Int, u = (if z < v then w else 0) → ∃ σ', srun (lyT Ln) (d + 1, 177, 43, [mR 92, mI w, mI (z + 1)], [], mup σ 97 (Int.toNat (4 + z)) u) = srun (lyT Ln) (d + 1, 177, 43, [mR 92, mI w, mI 7], [], σ') ∧ (∀ b j, ¬ (b = 97 ∧ 4 ≤ j ∧ j < 11) → σ' b j = σ b j) ∧ ∀ i : Int, (z ≤ i → i < 7 → σ' 97 (Int.toNat (4 + i)) = if i < v then w else 0) ∧ (0 ≤ i → i < z → σ' 97 (Int.toNat (4 + i)) = σ 97 (Int.toNat (4 + i))) := by
      intro u hu
      obtain ⟨σ', e1, f1, g1⟩ := ih (z + 1) (mup σ 97 (Int.toNat (4 + z)) u) (by omega) (by omega) ((mup_ne (by omega)).trans h0)
      refine ⟨σ', e1, fun b j h => (f1 b j h).trans (mup_ne (by omega)), fun i => ⟨fun a b => ?_, fun a b => ?_⟩⟩
      · by_cases c : i = z
        · rw [(g1 i).2 (by omega) (by omega), mup_ap, if_pos (by omega), hu, c]
        · exact (g1 i).1 (by omega) b
      · rw [(g1 i).2 a (by omega), mup_ne (by omega)]
    rw [b_M_county_43 _ _ _ _ z, decide_eq_false (show ¬ 7 ≤ z by omega), cond_false, h0]
    simp (discharger := omega) only [mw, minb_t (n := 52), cond_true]
    by_cases c : v ≤ z
    · rw [decide_eq_true c, cond_true]; exact F 0 (by rw [if_neg (by omega)])
    · rw [decide_eq_false c, cond_false]; exact F w (by rw [if_pos (by omega)])
theorem m_c102 {Ln dp : Nat} (hD : 1 ≤ dp) (z1 : Int) : ∀ (m : Nat) (z : Int) (σ : mmSt), z + m = 52 → 0 ≤ z → ∃ σ', srun (lyT Ln) (dp, 177, 102, [mR 92, mI z1, mI z], [], σ) = some (σ', σ' 96 2) ∧ (∀ b j, b ≠ 96 → σ' b j = σ b j) ∧ ∀ j : Nat, (z ≤ (j : Int) → j < 52 → σ' 96 j = σ 97 j) ∧ ((j : Int) < z → σ' 96 j = σ 96 j) := by
  obtain ⟨d, rfl⟩ := Nat.exists_eq_add_of_le' hD
  intro m
  induction m with
  | zero =>
    intro z σ e z0
    rw [b_M_county_102, decide_eq_true (show 52 ≤ z by omega)]
    exact ⟨σ, rfl, fun _ _ _ => rfl, fun j => ⟨fun a b => by omega, fun _ => rfl⟩⟩
  | succ m ih =>
    intro z σ e z0
    rw [b_M_county_102, decide_eq_false (show ¬ 52 ≤ z by omega), cond_false, minb_t z0 (by omega), cond_true, cond_true, mw (by omega) (by omega)]
    obtain ⟨σ', e1, f1, g1⟩ := ih (z + 1) (mup σ 96 (Int.toNat z) (σ 97 (Int.toNat z))) (by omega) (by omega)
    refine ⟨σ', e1, fun b j h => (f1 b j h).trans (mup_ne (by omega)), fun j => ⟨fun a b => ?_, fun a => ?_⟩⟩
    · by_cases c : (j : Int) = z
      · rw [(g1 j).2 (by omega), mup_ap, if_pos (by omega)]; congr 1; omega
      · rw [(g1 j).1 (by omega) b, mup_ne (by omega)]
    · rw [(g1 j).2 (by omega), mup_ne (by omega)]
theorem m_county {Ln dp : Nat} {n : Int} {tp : Nat → Int} (ht : ∀ j : Nat, (j : Int) < n → 0 ≤ tp j ∧ tp j ≤ 255) (hn0 : 0 ≤ n) (hn : n ≤ 120) (hD : 6 ≤ dp) {σ : mmSt} (t : TM n tp σ) : ∃ σ', srun (lyT Ln) (dp, 177, 0, [mR 92, mJ, mJ], [], σ) = some (σ', if (allS (byB n tp) n).1.1 = 0 then (allS (byB n tp) n).2 2 0 else mwrap (-1000100 - (allS (byB n tp) n).1.2)) ∧ σ' 92 11 = 0 ∧ σ' 92 18 = (if (allS (byB n tp) n).1.1 = 0 then σ 92 18 else (allS (byB n tp) n).1.1) ∧ ((allS (byB n tp) n).1.1 = 0 → σ' 92 9 = 0 ∧ rep 12 (cM (σ' 96)) (allS (byB n tp) n).2) ∧ (¬ (allS (byB n tp) n).1.1 = 0 → σ' 92 9 = σ 92 9 ∧ σ' 96 = σ 96) ∧ ∀ b j, ¬ (b = 96 ∨ b = 97 ∨ (b = 92 ∧ (j = 0 ∨ j = 9 ∨ (11 ≤ j ∧ j ≤ 18)))) → σ' b j = σ b j := by
  obtain ⟨d, rfl⟩ := Nat.exists_eq_add_of_le' hD
  have t0 : TM n tp (mup (mup (mup σ 92 0 0) 92 12 0) 92 16 0) := ⟨by simp (discharger := omega) only [mup_ne]; exact t.1, fun j hj => by simp (discharger := omega) only [mup_ne]; exact t.2 j hj⟩
  obtain ⟨σ1, e1, r1, f1⟩ := m_next (Ln := Ln) ht hn (Int.le_refl 0) hn0 (show 2 ≤ d + 4 by omega) t0 (by simp (discharger := omega) only [mup_ne, mup_eq]) (mup_eq _ _ _ _)
  obtain ⟨σ2, e2, f2, g2⟩ := m_c7 (Ln := Ln) (show 1 ≤ d + 6 by omega) 52 0 σ1 (by omega) (by omega)
  have r2 : RM n tp σ2 (0, 0) := RM_L r1 f2
  have e3 := m_ltr (Ln := Ln) r2 (show 1 ≤ d + 5 by omega) (show (97 : Int) ≤ 99 by omega) (show (99 : Int) ≤ 122 by omega)
  obtain ⟨σ4, e4, r4, f4⟩ := m_must (Ln := Ln) ht hn r2 (show 3 ≤ d + 5 by omega) (if ((0 : Int), (0 : Int)).1 = 0 ∧ byB n tp ((0 : Int), (0 : Int)).2 = 99 then 1 else 0)
  rw [mu_ltr (by omega)] at r4
  obtain ⟨σ5, v, e5, r5, hv, f5⟩ := m_num (Ln := Ln) ht hn r4 (show 4 ≤ d + 5 by omega) 2 7 (-1000000) (fun _ _ => num_no ht _)
  have r5' := RM_L (σ' := mup σ5 97 0 v) r5 (fun b j q => mup_ne (by omega))
  obtain ⟨σ6, e6, r6, f6⟩ := m_sgn (Ln := Ln) ht hn r5' (show 4 ≤ d + 5 by omega) (show (44 : Int) = 44 ∨ (44 : Int) = 59 by omega)
  obtain ⟨σ7, w, e7, r7, hw, f7⟩ := m_num (Ln := Ln) ht hn r6 (show 4 ≤ d + 5 by omega) 0 9 (-1000000) (fun _ _ => num_no ht _)
  obtain ⟨σ8, e8, r8, f8⟩ := m_sgn (Ln := Ln) ht hn r7 (show 4 ≤ d + 5 by omega) (show (59 : Int) = 44 ∨ (59 : Int) = 59 by omega)
  have r8' : RM n tp σ8 (lawS (byB n tp) n).1 := r8
  have f58 : frK (mup σ5 97 0 v) σ8 := frK_trans f6 (frK_trans f7 f8)
  have f25 : frK σ2 σ5 := frK_trans f4 f5
  have c0 : σ8 97 0 = v := (f58 97 0 (by omega)).trans (mup_eq _ _ _ _)
  have cz : ∀ j, 1 ≤ j → j < 52 → σ8 97 j = 0 := fun j j1 j2 => (f58 97 j (by omega)).trans ((mup_ne (by omega)).trans ((f25 97 j (by omega)).trans (g2 j (by omega) j2)))
  obtain ⟨σ9, e9, f9, g9⟩ := m_c43 (Ln := Ln) (show 1 ≤ d + 6 by omega) (v := v) (w := w) 7 0 σ8 (by omega) (by omega) c0
  have r9 : RM n tp σ9 (lawS (byB n tp) n).1 := RM_L r8' (fun b j q => f9 b j (by omega))
  have h9 : (lawS (byB n tp) n).1.1 = 0 → rep 12 (cM (σ9 97)) (lawS (byB n tp) n).2 ∧ PD (lawS (byB n tp) n).2 := by
    intro q
    have z7 : (nuS (byB n tp) n 0 9 (-1000000) (exS (byB n tp) 44 (nuS (byB n tp) n 2 7 (-1000000) (exS (byB n tp) 99 (0, 0))).2)).2.1 = 0 := ex_ok (c := 59) q
    have z5 := ex_ok (nu_ok z7).1
    have hv' := hv z5
    have hw' := hw z7
    refine ⟨rep_mkM ?_ ?_ ?_ ?_ (fun i i0 i1 => ?_) (fun i i0 i1 => ?_) (fun i i0 i1 => ?_), law_in q⟩
    · rw [f9 97 0 (by omega), c0, hv']; rfl
    · rw [f9 97 1 (by omega), cz 1 (by omega) (by omega)]; rfl
    · rw [f9 97 2 (by omega), cz 2 (by omega) (by omega)]; rfl
    · rw [f9 97 3 (by omega), cz 3 (by omega) (by omega)]; rfl
    · rw [(g9 i).1 i0 i1, hv', hw']; rfl
    · have : i < 0 := i1
      omega
    · have : i < 0 := i1
      omega
  have fr9 : ∀ b j, ¬ (b = 97 ∨ (b = 92 ∧ (j = 0 ∨ (12 ≤ j ∧ j ≤ 17)))) → σ9 b j = σ b j := by
    intro b j q
    rw [f9 b j (by omega), f58 b j (by omega), mup_ne (by omega), f25 b j (by omega), f2 b j (by omega), f1 b j (by omega)]
    simp (discharger := omega) only [mup_ne]
  have key : cEnd Ln (d + 6) w (allS (byB n tp) n) σ9 (srun (lyT Ln) (d + 6, 177, 43, [mR 92, mI w, mI 7], [], σ9)) := by
    rw [b_M_county_43, decide_eq_true (show (7 : Int) ≤ 7 by omega), cond_true, m_ltr r9 (by omega) (by omega) (by omega), Option.bind_some]
    unfold allS
    by_cases z : (lawS (byB n tp) n).1.1 = 0
    · obtain ⟨hr, pd⟩ := h9 z
      by_cases c : byB n tp (lawS (byB n tp) n).1.2 = 114
      · rw [if_pos ⟨z, c⟩, decide_eq_true (show ¬ (1 : Int) = 0 by omega), cond_true]
        have e : rdsL (byB n tp) n 7 (roadS (byB n tp) n (lawS (byB n tp) n).2 (lawS (byB n tp) n).1) = rdsL (byB n tp) n 8 (lawS (byB n tp) n) := by
          rw [rdsL.eq_def (byB n tp) n 8]
          exact (if_pos ⟨z, c⟩).symm
        rw [e]
        have w0 := pd.1
        exact m_70 ht hn (by omega) w 7 8 σ9 (lawS (byB n tp) n) r9 (law_ge _ _) (fun _ => ⟨hr, pd, by omega⟩)
      · obtain ⟨σA, eA, qA, fA⟩ := m_bad (Ln := Ln) r9 (show 1 ≤ d + 5 by omega) (show ¬ (1 : Int) = 0 by omega)
        rw [if_pos z] at qA
        rw [if_neg (fun q => c q.2), decide_eq_false (show ¬ ¬ (0 : Int) = 0 by omega), cond_false, eA, Option.bind_some, road_no z c]
        exact cEnd_fr (frK_L fA) (m_70 ht hn (by omega) w 7 7 σA ((1, (lawS (byB n tp) n).1.2), (lawS (byB n tp) n).2) qA (show (0 : Int) ≤ 1 by omega) (fun q => absurd q (show ¬ (1 : Int) = 0 by omega)))
    · obtain ⟨σA, eA, qA, fA⟩ := m_bad (Ln := Ln) r9 (show 1 ≤ d + 5 by omega) (show ¬ (1 : Int) = 0 by omega)
      rw [if_neg z] at qA
      rw [if_neg (fun q => z q.1), decide_eq_false (show ¬ ¬ (0 : Int) = 0 by omega), cond_false, eA, Option.bind_some, road_bad z]
      exact cEnd_fr (frK_L fA) (m_70 ht hn (by omega) w 7 7 σA ((lawS (byB n tp) n).1, (lawS (byB n tp) n).2) qA (law_ge _ _) (fun q => absurd q z))
  obtain ⟨σE, eE, h11, h18, hE, fE⟩ := key
  have run : srun (lyT Ln) (d + 6, 177, 0, [mR 92, mJ, mJ], [], σ) = srun (lyT Ln) (d + 6, 177, 43, [mR 92, mI w, mI 7], [], σ9) := by
    rw [b_M_county, b_M_begin, e1]
    simp only [Option.bind_some]
    rw [e2, b_M_county_7, decide_eq_true (show (52 : Int) ≤ 52 by omega), cond_true, e3, Option.bind_some]
    show Option.bind (srun (lyT Ln) (d + 5, 166, 0, [mR 92, mI (if ((0 : Int), (0 : Int)).1 = 0 ∧ byB n tp ((0 : Int), (0 : Int)).2 = 99 then 1 else 0)], [], σ2)) _ = _
    rw [e4, Option.bind_some]
    simp only [e5, e6, e7, e8, Option.bind_some]
    exact e9
  rw [run, eE]
  by_cases z : (allS (byB n tp) n).1.1 = 0
  · obtain ⟨σF, eF, fF, gF⟩ := m_c102 (Ln := Ln) (show 1 ≤ d + 6 by omega) w 52 0 (mup σE 92 9 0) (by omega) (by omega)
    have G := all_in z
    have wf := G.1.1
    have c96 : rep 12 (cM (σF 96)) (allS (byB n tp) n).2 := rep_M_52 (by omega) (fun j hj => by rw [(gF j).1 (by omega) hj, mup_ne (by omega)]) (hE z)
    rw [if_pos z, if_pos z, if_pos z, eF]
    rw [if_pos z] at h18
    refine ⟨σF, by rw [m2 c96], ?_, ?_, fun _ => ⟨?_, c96⟩, fun q => absurd z q, fun b j q => ?_⟩
    · rw [fF 92 11 (by omega), mup_ne (by omega)]; exact h11
    · rw [fF 92 18 (by omega), mup_ne (by omega), h18]; exact fr9 92 18 (by omega)
    · rw [fF 92 9 (by omega), mup_eq]
    · rw [fF b j (by omega), mup_ne (by omega), fE b j (by omega)]; exact fr9 b j (by omega)
  · rw [if_neg z, if_neg z, if_neg z]
    rw [if_neg z] at h18
    refine ⟨σE, rfl, h11, h18, fun q => absurd q z, fun _ => ⟨?_, ?_⟩, fun b j q => ?_⟩
    · rw [fE 92 9 (by omega)]; exact fr9 92 9 (by omega)
    · exact funext fun j => (fE 96 j (by omega)).trans (fr9 96 j (by omega))
    · rw [fE b j (by omega)]; exact fr9 b j (by omega)
theorem k_111 (Ln : Nat) : ck_111 Rel Ln := by
  intro σ hR
  obtain ⟨C, ⟨h, h', hc⟩, hA⟩ := hR.2.2.2.1
  obtain ⟨p1, p2, p3, p4, p5⟩ := hR.2.1
  have ht : ∀ j : Nat, (j : Int) < σ 92 11 → 0 ≤ σ 100 j ∧ σ 100 j ≤ 255 := fun j hj => (p4 j hj).2
  have X := b_X_county Ln 98 σ
  obtain ⟨σ1, e1, a1, a2, a3, a4, a5, f1⟩ := x_read (Ln := Ln) (dp := 98) (tp := σ 100) ht p2 p3 (by omega) (σ := σ) ⟨p1, fun j hj => (p4 j hj).1⟩
  rw [e1, Option.bind_some] at X
  by_cases z : (allS (byB (σ 92 11) (σ 100)) (σ 92 11)).1.1 = 0
  · have G := all_in z
    have wf := G.1.1
    obtain ⟨r1, pd⟩ := a3 z
    simp only [if_pos z, decide_true, cond_true] at X a2
    obtain ⟨σ2, e2, r2, f2⟩ := x_become (Ln := Ln) (a := 48) (b := 10) (by unfold bpair; omega) r1 (by omega) (by omega) (show 1 ≤ 98 by omega)
    have r2' : rep 12 (cX (mup σ2 21 0 0) 48) (allS (byB (σ 92 11) (σ 100)) (σ 92 11)).2 := rep_X_of (fun b j _ => mup_ne (by omega)) (rep_cg (rep_le r2 (by omega)) (by omega) (fun f i hf => (zt_lt hf).symm))
    rw [e2, Option.bind_some, b_Acts_forget] at X
    simp only [Option.bind_some, x2 r2'] at X
    have f2' : ∀ b j, ¬ ((b = 9 ∧ (j = 1 ∨ j = 2 ∨ j = 4 ∨ j = 5)) ∨ (10 ≤ b ∧ b ≤ 19) ∨ (b = 21 ∧ j = 0) ∨ (48 ≤ b ∧ b ≤ 57)) → (mup σ2 21 0 0) b j = σ b j := fun b j q => by
      rw [mup_ne (by omega), f2 b j (by omega), f1 b j (by omega)]
    obtain ⟨σ3, e3, b1, b2, b3, b4, f3⟩ := m_county (Ln := Ln) (dp := 99) (tp := σ 100) ht p2 p3 (by omega) (σ := mup σ2 21 0 0) ⟨f2' 92 11 (by omega), fun j hj => f2' 100 j (by omega)⟩
    rw [if_pos z] at e3 b2
    obtain ⟨b9, b96⟩ := b3 z
    have q : ∀ b j, ¬ ((b = 9 ∧ (j = 1 ∨ j = 2 ∨ j = 4 ∨ j = 5)) ∨ (10 ≤ b ∧ b ≤ 19) ∨ (b = 21 ∧ j = 0) ∨ (48 ≤ b ∧ b ≤ 57)) → ¬ (b = 96 ∨ b = 97 ∨ (b = 92 ∧ (j = 0 ∨ j = 9 ∨ (11 ≤ j ∧ j ≤ 18)))) → σ3 b j = σ b j := fun b j p p' => (f3 b j p').trans (f2' b j p)
    have t91 : σ3 9 1 = 0 := by rw [f3 9 1 (by omega), mup_ne (by omega), f2 9 1 (by omega)]; exact a1
    have t92 : σ3 9 2 = σ 9 2 := by rw [f3 9 2 (by omega), mup_ne (by omega), f2 9 2 (by omega)]; exact a2
    have e21 : σ3 21 2 = σ 21 2 := q 21 2 (by omega) (by omega)
    have n4 := hA.2.2.2.1
    have n5 := hA.2.2.2.2.1
    obtain ⟨w1, w2, w3, _, w6, w7⟩ := hR
    refine ⟨mup σ2 21 0 0, _, σ3, X, e3, ⟨tab_of (fun b j h1 h2 => q b j (by omega) (by omega)) w1, ⟨t91.trans b1.symm, by omega, by omega, fun j hj => by omega, by rw [t92, b2, f2' 92 18 (by omega)]; exact p5⟩, rows_of (fun b j h => q b j (by omega) (by omega)) w3, ⟨_, ⟨rep_X_of (fun b j h => f3 b j (by omega)) r2', b96, .inr G⟩, ⟨?_, by omega, by omega, by omega, by omega, fun k hk => by omega⟩⟩, img_of (fun b j h => q b j (by omega) (by omega)) w6, trace_of (fun b j h => q b j (by omega) (by omega)) w7⟩, funext fun j => f2' 0 j (by omega), funext fun j => q 0 j (by omega) (by omega)⟩
    rw [f3 21 0 (by omega), mup_eq, b9]
  · simp only [if_neg z] at X a2
    rw [decide_eq_false (show ¬ (allS (byB (σ 92 11) (σ 100)) (σ 92 11)).1.2 = -1000000 by omega), cond_false] at X
    obtain ⟨σ3, e3, b1, b2, b3, b4, f3⟩ := m_county (Ln := Ln) (dp := 99) (tp := σ 100) ht p2 p3 (by omega) (σ := σ1) ⟨f1 92 11 (by omega), fun j hj => f1 100 j (by omega)⟩
    rw [if_neg z] at e3 b2
    obtain ⟨b9, b96⟩ := b4 z
    have q : ∀ b j, ¬ ((b = 9 ∧ (j = 1 ∨ j = 2 ∨ j = 4 ∨ j = 5)) ∨ (10 ≤ b ∧ b ≤ 19)) → ¬ (b = 96 ∨ b = 97 ∨ (b = 92 ∧ (j = 0 ∨ j = 9 ∨ (11 ≤ j ∧ j ≤ 18)))) → σ3 b j = σ b j := fun b j p p' => (f3 b j p').trans (f1 b j p)
    have q9 : σ3 92 9 = σ 92 9 := b9.trans (f1 92 9 (by omega))
    have q96 : ∀ j, σ3 96 j = σ 96 j := fun j => (congrFun b96 j).trans (f1 96 j (by omega))
    have t91 : σ3 9 1 = 0 := (f3 9 1 (by omega)).trans a1
    have t92 : σ3 9 2 = _ := (f3 9 2 (by omega)).trans a2
    obtain ⟨w1, w2, w3, _, w6, w7⟩ := id hR
    refine ⟨σ1, _, σ3, X, e3, Rel_of hR ⟨t91.trans b1.symm, by omega, by omega, fun j hj => by omega, t92.trans b2.symm⟩ (rows_of (fun b j h => q b j (by omega) (by omega)) w3) (trace_of (fun b j h => q b j (by omega) (by omega)) w7) (fun b j hb => ?_), funext fun j => f1 0 j (by omega), funext fun j => q 0 j (by omega) (by omega)⟩
    by_cases c96 : b = 96
    · rw [c96]; exact q96 j
    · by_cases c9 : b = 92 ∧ j = 9
      · rw [c9.1, c9.2]; exact q9
      · unfold cty at hb
        exact q b j (by omega) (by omega)
