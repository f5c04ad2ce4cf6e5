/-! images -/
theorem x_img {Ln d M p q : Nat} {σ : mmSt} {k : Int} (k0 : 0 ≤ k) (k1 : k ≤ 1) (hM : (M = 140 ∧ p = 16 ∧ q = 17) ∨ (M = 141 ∧ p = 10 ∧ q = 11)) : srun (lyT Ln) (d + 1, M, p, [mR 4, mI k], [mI k, mR 71], σ) = srun (lyT Ln) (d + 1, M, q, [mR 4, mI k], [mR (72 + 10 * Int.toNat k)], σ) := by
  have h : k = 0 ∨ k = 1 := by omega
  rcases hM with ⟨rfl, rfl, rfl⟩ | ⟨rfl, rfl, rfl⟩ <;> rcases h with rfl | rfl <;> exact (srun_unr _ [] 1 _).trans rfl
theorem x_img2 {Ln d : Nat} {σ : mmSt} {k : Int} (k0 : 0 ≤ k) (k1 : k ≤ 1) : srun (lyT Ln) (d + 1, 141, 20, [mR 4, mI k], [mI k, mR 71, mR 48], σ) = srun (lyT Ln) (d + 1, 141, 21, [mR 4, mI k], [mR (72 + 10 * Int.toNat k), mR 48], σ) := by
  have h : k = 0 ∨ k = 1 := by omega
  rcases h with rfl | rfl <;> exact (srun_unr _ [] 1 _).trans rfl
theorem m_imgL {Ln : Nat} {k : Int} (k0 : 0 ≤ k) (k1 : k ≤ 1) : ∀ (n : Nat) (z : Int) (σ : mmSt), z + n = 52 → 0 ≤ z → ∃ σ', srun (lyT Ln) (99, 228, 18, [mR 92, mI k, mI z], [], σ) = some (σ', 1) ∧ (∀ b j, ¬ (b = 103 ∨ (b = 102 ∧ j = Int.toNat k)) → σ' b j = σ b j) ∧ σ' 102 (Int.toNat k) = 1 ∧ ∀ j : Nat, σ' 103 j = if 52 * k + z ≤ (j : Int) ∧ (j : Int) < 52 * k + 52 then σ 96 (j - 52 * Int.toNat k) else σ 103 j := by
  intro n
  induction n with
  | zero =>
    intro z σ e z0
    rw [b_M_image_18, decide_eq_true (show 52 ≤ z by omega), cond_true, minb_t k0 (by omega)]
    exact ⟨_, rfl, fun b j hb => mup_ne (by omega), mup_eq _ _ _ _, fun j => by rw [if_neg (by omega), mup_ne (by omega)]⟩
  | succ n ih =>
    intro z σ e z0
    rw [b_M_image_18, decide_eq_false (show ¬ 52 ≤ z by omega), cond_false, mw (z := 52 * k) (by omega) (by omega), mw (z := 52 * k + z) (by omega) (by omega), minb_t z0 (by omega), cond_true, minb_t (by omega) (by omega), cond_true, mw (by omega) (by omega)]
    obtain ⟨σ', e1, f1, g1, h1⟩ := ih (z + 1) (mup σ 103 (Int.toNat (52 * k + z)) (σ 96 (Int.toNat z))) (by omega) (by omega)
    refine ⟨σ', e1, fun b j hb => (f1 b j hb).trans (mup_ne (by omega)), g1, fun j => ?_⟩
    rw [h1, mup_ne (b := 96) (by omega), mup_ap]
    by_cases c : 52 * k + z ≤ (j : Int) ∧ (j : Int) < 52 * k + 52
    · rw [if_pos c]
      by_cases c2 : (j : Int) = 52 * k + z
      · rw [if_neg (by omega), if_pos (by omega), show Int.toNat z = j - 52 * Int.toNat k by omega]
      · rw [if_pos (by omega)]
    · rw [if_neg c, if_neg (by omega), if_neg (by omega)]
theorem m_rstL {Ln : Nat} {k : Int} (k0 : 0 ≤ k) (k1 : k ≤ 1) : ∀ (n : Nat) (z : Int) (σ : mmSt), z + n = 52 → 0 ≤ z → ∃ σ', srun (lyT Ln) (99, 229, 20, [mR 92, mI k, mI z], [], σ) = some (σ', 1) ∧ (∀ b j, ¬ (b = 96 ∨ (b = 92 ∧ j = 9)) → σ' b j = σ b j) ∧ σ' 92 9 = 0 ∧ ∀ j : Nat, σ' 96 j = if z ≤ (j : Int) ∧ j < 52 then σ 103 (52 * Int.toNat k + j) else σ 96 j := by
  intro n
  induction n with
  | zero =>
    intro z σ e z0
    rw [b_M_restore_20, decide_eq_true (show 52 ≤ z by omega)]
    exact ⟨_, rfl, fun b j hb => mup_ne (by omega), mup_eq _ _ _ _, fun j => by rw [if_neg (by omega), mup_ne (by omega)]⟩
  | succ n ih =>
    intro z σ e z0
    rw [b_M_restore_20, decide_eq_false (show ¬ 52 ≤ z by omega), cond_false, mw (z := 52 * k) (by omega) (by omega), mw (z := 52 * k + z) (by omega) (by omega), minb_t (by omega) (by omega), cond_true, minb_t z0 (by omega), cond_true, mw (by omega) (by omega)]
    obtain ⟨σ', e1, f1, g1, h1⟩ := ih (z + 1) (mup σ 96 (Int.toNat z) (σ 103 (Int.toNat (52 * k + z)))) (by omega) (by omega)
    refine ⟨σ', e1, fun b j hb => (f1 b j hb).trans (mup_ne (by omega)), g1, fun j => ?_⟩
    rw [h1, mup_ne (b := 103) (by omega), mup_ap]
    by_cases c : z ≤ (j : Int) ∧ j < 52
    · rw [if_pos c]
      by_cases c2 : (j : Int) = z
      · rw [if_neg (by omega), if_pos (by omega), show Int.toNat (52 * k + z) = 52 * Int.toNat k + j by omega]
      · rw [if_pos (by omega)]
    · rw [if_neg c, if_neg (by omega), if_neg (by omega)]
theorem k_140 (Ln : Nat) : ck_140 Rel Ln := by
  intro k _ σ hR
  obtain ⟨C, ⟨h, h', hc⟩, hA⟩ := hR.2.2.2.1
  have b := now_b hc
  have hm0 := thr h'
  have X := b_X_image Ln 98 σ k
  rw [x_within (by omega)] at X
  simp only [Option.bind_some, dec0, dec1, x_isTold c48 h (show 1 ≤ 98 by omega)] at X
  have MM : ∀ τ, rep 12 (cM ((mup τ 92 0 0) 96)) C → srun (lyT Ln) (99, 228, 0, [mR 92, mI k, mJ], [], τ) = (bif btB 0 k 1 then bif decide (0 < C 0 0) then srun (lyT Ln) (99, 228, 18, [mR 92, mI k, mI 0], [], mup τ 92 0 0) else some (mup τ 92 0 0, -1000002) else some (mup τ 92 0 0, -1000001)) := by
    intro τ hτ
    rw [b_M_image, m_in (by omega)]
    simp only [Option.bind_some, dec0, dec1, m_isThere hτ (show 1 ≤ 98 by omega)]
  cases hn : btB 0 k 1
  · exact bad_fin hR (v := -1000001) (X.trans (by rw [hn]; rfl)) ((MM σ hm0).trans (by rw [hn]; rfl))
  cases hq : decide (0 < C 0 0)
  · exact bad_fin hR (v := -1000002) (X.trans (by rw [hn, hq]; rfl)) ((MM σ hm0).trans (by rw [hn, hq]; rfl))
  have k1 := btB_t hn
  have G := now_t hc hq
  have kb : 72 + 10 * Int.toNat k = 72 ∨ 72 + 10 * Int.toNat k = 82 := by omega
  obtain ⟨σ1, e1, r1, f1⟩ := x_become (Ln := Ln) (a := 72 + 10 * Int.toNat k) (b := 48) (by unfold bpair; omega) h (by omega) (by omega) (show 1 ≤ 98 by omega)
  have r1' : rep 12 (cX σ1 (72 + 10 * Int.toNat k)) C := rep_cg (rep_le r1 (by omega)) (by omega) (fun f i hf => (zt_lt hf).symm)
  have hb : rep 12 (cM ((mup σ1 92 0 0) 96)) C := rep_M_of (fun j => (mup_ne (by omega)).trans (f1 96 j (by omega))) h'
  obtain ⟨σ2, e2, f2, g2, h2⟩ := m_imgL (Ln := Ln) k1.1 k1.2 52 0 (mup σ1 92 0 0) (by omega) (by omega)
  have q : ∀ b j, ¬ (72 + 10 * Int.toNat k ≤ b ∧ b ≤ 72 + 10 * Int.toNat k + 9) → ¬ (b = 103 ∨ (b = 102 ∧ j = Int.toNat k) ∨ (b = 92 ∧ j = 0)) → σ2 b j = σ b j := fun b j p p' => (f2 b j (by omega)).trans ((mup_ne (by omega)).trans (f1 b j (by omega)))
  refine ⟨σ1, 1, σ2, X.trans ?_, (MM σ1 hb).trans ?_, ?_, funext fun j => f1 0 j (by omega), funext fun j => q 0 j (by omega) (by omega)⟩
  · rw [hn, hq]
    show srun (lyT Ln) (98 + 1, 140, 16, [mR 4, mI k], [mI k, mR 71], σ) = _
    rw [x_img k1.1 k1.2 (.inl ⟨rfl, rfl, rfl⟩), b_X_image_17 _ _ _ _ _ kb, e1]; rfl
  · rw [hn, hq]; exact e2
  · obtain ⟨w1, w2, w3, _, w6, w7⟩ := hR
    refine ⟨tab_of (fun b j h1 h2 => q b j (by omega) (by omega)) w1, tape_of (fun b j h => q b j (by omega) (by omega)) w2, rows_of (fun b j h => q b j (by omega) (by omega)) w3, ⟨C, now_of (fun b j h => q b j (by omega) (by omega)) ⟨h, h', hc⟩, acts_of (fun b j h => q b j (by omega) (by omega)) hA⟩, fun i hi => ?_, trace_of (fun b j h => q b j (by omega) (by omega)) w7⟩
    by_cases ci : i = Int.toNat k
    · subst ci
      have wf := G.1.1
      refine .inr ⟨g2, C, G, rep_X_of (fun b j hb => (f2 b j (by omega)).trans (mup_ne (by omega))) r1', rep_M_52 (by omega) (fun j hj => ?_) hb⟩
      show σ2 103 (52 * Int.toNat k + j) = (mup σ1 92 0 0) 96 j
      rw [h2, if_pos (by omega), show 52 * Int.toNat k + j - 52 * Int.toNat k = j by omega]
    · rw [q 102 i (by omega) (by omega), q (72 + 10 * i) 0 (by omega) (by omega)]
      rcases w6 i hi with w | ⟨w1, D, d1, d2, d3⟩
      · exact .inl w
      · have wf := d1.1.1
        refine .inr ⟨w1, D, d1, rep_X_of (fun b j hb => q b j (by omega) (by omega)) d2, rep_M_52 (by omega) (fun j hj => ?_) d3⟩
        show σ2 103 (52 * i + j) = σ 103 (52 * i + j)
        rw [h2, if_neg (by omega), mup_ne (by omega), f1 103 _ (by omega)]
theorem k_141 (Ln : Nat) : ck_141 Rel Ln := by
  intro k _ σ hR
  obtain ⟨C, ⟨h, h', hc⟩, hA⟩ := hR.2.2.2.1
  have b := now_b hc
  have X := b_X_restore Ln 98 σ k
  rw [x_within (by omega)] at X
  simp only [Option.bind_some, dec0, dec1] at X
  have M := fun τ => b_M_restore Ln 98 τ k
  cases hn : btB 0 k 1
  · refine bad_fin hR (v := -1000001) (X.trans (by rw [hn]; rfl)) ((M σ).trans ?_)
    rw [m_in (by omega), hn]; rfl
  have k1 := btB_t hn
  have kb : 72 + 10 * Int.toNat k = 72 ∨ 72 + 10 * Int.toNat k = 82 := by omega
  have cb : cnty (72 + 10 * Int.toNat k) := by unfold cnty; omega
  rw [hn] at X
  have X2 : srun (lyT Ln) (99, 141, 0, [mR 4, mI k], [], σ) = _ := X.trans ((x_img (Ln := Ln) (d := 98) (σ := σ) k1.1 k1.2 (.inr ⟨rfl, rfl, rfl⟩)).trans (b_X_restore_11 _ _ _ _ _ kb))
  rcases hR.2.2.2.2.1 (Int.toNat k) (by omega) with w | ⟨w1, E, d1, d2, d3⟩
  · refine bad_fin hR (v := -1000002) (X2.trans ?_) ((M σ).trans ?_)
    · rw [b_County_isTold _ _ _ _ cb, w.2]; rfl
    · rw [m_in (by omega), hn]
      simp only [Option.bind_some, dec1, cond_true, minb_t k1.1 (show k < ((2 : Nat) : Int) by omega)]
      rw [decide_eq_false (show ¬ ¬ (mup σ 92 0 0) 102 (Int.toNat k) = 0 by rw [mup_ne (by omega), w.1]; omega)]; rfl
  · have wf := d1.1.1
    obtain ⟨σ1, e1, r1, f1⟩ := x_become (Ln := Ln) (a := 48) (b := 72 + 10 * Int.toNat k) (by unfold bpair; omega) d2 (by omega) (by omega) (show 1 ≤ 98 by omega)
    have r1' : rep 12 (cX (mup σ1 21 0 0) 48) E := rep_X_of (fun b j _ => mup_ne (by omega)) (rep_cg (rep_le r1 (by omega)) (by omega) (fun f i hf => (zt_lt hf).symm))
    have f1' : gfX σ (mup σ1 21 0 0) := fun b j q => (mup_ne (by omega)).trans (f1 b j (by omega))
    obtain ⟨σ2, e2, f2, g2, h2⟩ := m_rstL (Ln := Ln) k1.1 k1.2 52 0 (mup (mup σ1 21 0 0) 92 0 0) (by omega) (by omega)
    have e21 : (mup σ1 21 0 0) 21 2 = σ 21 2 := (mup_ne (by omega)).trans (f1 21 2 (by omega))
    have a4 := hA.2.2.2.1
    have a5 := hA.2.2.2.2.1
    refine act_fin hR (v := 1) (C' := E) (K' := 0) (H' := fun _ => E) (σ1 := mup σ1 21 0 0) (σ2 := σ2) (X2.trans ?_) r1' ⟨mup_eq _ _ _ _, by omega, by omega, by rw [e21]; exact a4, by rw [e21]; exact a5, fun k hk => by omega⟩ f1' ((M _).trans ?_) ?_ ⟨g2, by omega, by omega, fun k hk => by omega⟩ (fun b j q => (f2 b j (by omega)).trans (mup_ne (by omega))) d1 (fun k hk => by omega)
    · rw [x_isTold cb d2 (by omega), Option.bind_some, dec1, decide_eq_true (show 0 < E 0 0 by omega), cond_true]
      show srun (lyT Ln) (98 + 1, 141, 20, [mR 4, mI k], [mI k, mR 71, mR 48], σ) = _
      rw [x_img2 k1.1 k1.2, b_X_restore_21 _ _ _ _ _ kb, e1, Option.bind_some]
      show Option.bind (srun (lyT Ln) (98, 4, 0, [mR 21], [], σ1)) _ = _
      rw [b_Acts_forget]; rfl
    · rw [m_in (by omega), hn]
      simp only [Option.bind_some, dec1, cond_true, minb_t k1.1 (show k < ((2 : Nat) : Int) by omega)]
      rw [decide_eq_true (show ¬ (mup (mup σ1 21 0 0) 92 0 0) 102 (Int.toNat k) = 0 by rw [mup_ne (by omega), f1' 102 _ (by omega), w1]; omega)]
      exact e2
    · refine rep_M_52 (by omega) (fun j hj => ?_) d3
      show σ2 96 j = σ 103 (52 * Int.toNat k + j)
      rw [h2, if_pos (by omega), mup_ne (by omega), f1' 103 _ (by omega)]
