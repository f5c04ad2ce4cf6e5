/-! county: the model's small readers -/
theorem by_n (n : Int) (tp : Nat → Int) : byB n tp n = -1 := if_neg (by omega)
theorem dig_n (n : Int) (tp : Nat → Int) : digB (byB n tp) n = false := by
  unfold digB
  rw [by_n]; rfl
theorem fig_0 {B : Int → Int} {n p : Int} (d : digB B p = false) : fig B n p = 0 := by
  unfold fig
  cases h : Int.toNat (n - p) with
  | zero => rfl
  | succ m => rw [figL, d]; rfl
theorem fig_1 {n : Int} {tp : Nat → Int} {p : Int} (d : digB (byB n tp) p = true) : 1 ≤ fig (byB n tp) n p := by
  have := by_dig d
  rw [fig_S this.2 d]
  have := figL_in (B := byB n tp) (Int.toNat (n - (p + 1))) (p + 1)
  omega
theorem nx_plain {n : Int} {tp : Nat → Int} {p : Int} (h : 0 ≤ byB n tp p) (d : digB (byB n tp) p = false) : nxV (byB n tp) n p = p + 1 := by
  have := by_in (c := byB n tp p) rfl h
  unfold nxV
  rw [if_neg (by omega), if_neg (by rw [d]; decide)]
theorem dig_no {B : Int → Int} {p : Int} (h : B p < 48 ∨ 57 < B p) : digB B p = false := by
  cases c : digB B p with
  | false => rfl
  | true => have := btB_t c; omega
theorem tok_ltr {n : Int} {tp : Nat → Int} {p c : Int} (c0 : 97 ≤ c) (c1 : c ≤ 122) : (tokV (byB n tp) n p = 2 ∧ valV (byB n tp) n p = c) ↔ byB n tp p = c := by
  unfold tokV valV
  by_cases h : p = n
  · rw [if_pos h, if_pos h, h, by_n]; omega
  · rw [if_neg h, if_neg h]
    cases ha : btB 97 (byB n tp p) 122 with
    | true =>
      have := btB_t ha
      rw [if_pos rfl, dig_no (by omega), if_neg (by decide)]
      exact ⟨fun q => q.2, fun q => ⟨rfl, q⟩⟩
    | false =>
      constructor
      · intro q
        exfalso
        have q1 := q.1
        revert q1
        rw [if_neg (by decide)]
        split
        · split <;> omega
        · split <;> omega
      · intro q
        exfalso
        have : btB 97 (byB n tp p) 122 = true := by unfold btB; rw [q, decide_eq_true c0, decide_eq_true c1]; rfl
        rw [ha] at this; exact absurd this (by decide)
theorem tok_sgn {n : Int} {tp : Nat → Int} {p c : Int} (hc : c = 44 ∨ c = 59) : (tokV (byB n tp) n p = 4 ∧ valV (byB n tp) n p = c) ↔ byB n tp p = c := by
  unfold tokV valV
  by_cases h : p = n
  · rw [if_pos h, if_pos h, h, by_n]; omega
  · rw [if_neg h, if_neg h]
    cases ha : btB 97 (byB n tp p) 122 with
    | true =>
      have := btB_t ha
      rw [if_pos rfl]
      omega
    | false =>
      rw [if_neg (by decide)]
      cases hd : digB (byB n tp) p with
      | true =>
        have := btB_t hd
        rw [if_pos rfl, if_pos rfl]
        constructor
        · intro q
          exfalso
          have q1 := q.1
          revert q1
          split <;> omega
        · intro q; omega
      | false =>
        rw [if_neg (show ¬ (false = true) by decide), if_neg (show ¬ (false = true) by decide)]
        by_cases e : byB n tp p = 44 ∨ byB n tp p = 59
        · rw [if_pos e]; exact ⟨fun q => q.2, fun q => ⟨rfl, q⟩⟩
        · rw [if_neg e]
          constructor
          · intro q; omega
          · intro q; omega
theorem tok_num {n : Int} {tp : Nat → Int} {p : Int} : tokV (byB n tp) n p = 3 ↔ fig (byB n tp) n p = 1 ∨ fig (byB n tp) n p = 2 := by
  unfold tokV
  by_cases h : p = n
  · rw [if_pos h, h, fig_0 (dig_n n tp)]; omega
  · rw [if_neg h]
    cases hd : digB (byB n tp) p with
    | true =>
      have b := btB_t hd
      have f := fig_1 hd
      have ha : btB 97 (byB n tp p) 122 = false := by
        unfold btB; rw [decide_eq_false (show ¬ 97 ≤ byB n tp p by omega)]; rfl
      rw [ha, if_neg (by decide), if_pos rfl]
      by_cases k : fig (byB n tp) n p ≤ 2
      · rw [if_pos k]; omega
      · rw [if_neg k]; omega
    | false =>
      rw [fig_0 hd]
      constructor
      · intro q
        exfalso
        revert q
        split
        · omega
        · rw [if_neg (by decide)]
          split <;> omega
      · omega
theorem num_val {n : Int} {tp : Nat → Int} {p : Int} (h : fig (byB n tp) n p = 1 ∨ fig (byB n tp) n p = 2) : valV (byB n tp) n p = numV (byB n tp) n p ∧ nxV (byB n tp) n p = p + fig (byB n tp) n p := by
  have hd : digB (byB n tp) p = true := by
    cases hd : digB (byB n tp) p with
    | true => rfl
    | false => rw [fig_0 hd] at h; omega
  have := by_dig hd
  unfold valV nxV
  rw [if_neg (by omega), if_pos hd, if_neg (by omega), if_pos hd]
  exact ⟨rfl, rfl⟩
theorem tok_end {n : Int} {tp : Nat → Int} {p : Int} : tokV (byB n tp) n p = 1 ↔ p = n := by
  unfold tokV
  by_cases h : p = n
  · rw [if_pos h]; exact ⟨fun _ => h, fun _ => rfl⟩
  · rw [if_neg h]
    refine ⟨fun q => ?_, fun q => absurd q h⟩
    exfalso
    revert q
    split
    · omega
    · split
      · split <;> omega
      · split <;> omega
def muS (B : Int → Int) (n x : Int) (s : Int × Int) : Int × Int := if s.1 = 0 then (if x = 0 then (1, s.2) else (0, nxV B n s.2)) else s
theorem m_bad {Ln : Nat} {n : Int} {tp : Nat → Int} {σ : mmSt} {s : Int × Int} (r : RM n tp σ s) {D : Nat} (hD : 1 ≤ D) {k : Int} (k0 : ¬ k = 0) : ∃ σ', srun (lyT Ln) (D, 164, 0, [mR 92, mI k], [], σ) = some (σ', 0) ∧ RM n tp σ' (if s.1 = 0 then (k, s.2) else s) ∧ frK σ σ' := by
  obtain ⟨d, rfl⟩ := Nat.exists_eq_add_of_le' hD
  obtain ⟨t, r1, r2, r3, r4⟩ := r
  rw [b_M_bad, r1]
  by_cases c : s.1 = 0
  · rw [decide_eq_false (show ¬ ¬ s.1 = 0 by omega), if_pos c, mup_ne (b := 92) (j := 13) (by omega), (r3 c).1]
    refine ⟨_, rfl, ⟨TM_fr t (fun b j q => by rw [mup_ne (by omega), mup_ne (by omega)]), ?_, r2, fun q => absurd q k0, fun _ => mup_eq _ _ _ _⟩, fun b j q => by rw [mup_ne (by omega), mup_ne (by omega)]⟩
    rw [mup_ne (by omega), mup_eq]
  · rw [decide_eq_true c, if_neg c]
    exact ⟨σ, rfl, ⟨t, r1, r2, r3, r4⟩, frK_rfl _⟩
theorem m_must {Ln : Nat} {n : Int} {tp : Nat → Int} (ht : ∀ j : Nat, (j : Int) < n → 0 ≤ tp j ∧ tp j ≤ 255) (hn : n ≤ 120) {σ : mmSt} {s : Int × Int} (r : RM n tp σ s) {D : Nat} (hD : 3 ≤ D) (x : Int) : ∃ σ', srun (lyT Ln) (D, 166, 0, [mR 92, mI x], [], σ) = some (σ', 0) ∧ RM n tp σ' (muS (byB n tp) n x s) ∧ frK σ σ' := by
  obtain ⟨d, rfl⟩ := Nat.exists_eq_add_of_le' hD
  have r1 := r.2.1
  have si := r.2.2.1
  unfold muS
  rw [b_M_must, r1]
  by_cases c : s.1 = 0
  · rw [if_pos c]
    by_cases x0 : x = 0
    · obtain ⟨σ1, e1, q1, f1⟩ := m_bad (Ln := Ln) r (show 1 ≤ d + 2 by omega) (show ¬ (1 : Int) = 0 by omega)
      rw [if_pos c] at q1
      rw [if_pos x0, decide_eq_false (show ¬ ¬ x = 0 by omega), cond_false, e1, Option.bind_some]
      simp only [decide_eq_true (show ¬ σ1 92 16 = 0 by rw [q1.2.1]; show ¬ (1 : Int) = 0; omega), cond_true]
      exact ⟨σ1, rfl, q1, f1⟩
    · obtain ⟨_, _, h14⟩ := r.2.2.2.1 c
      have nx := nx_in (B := byB n tp) si.2 si.1
      obtain ⟨σ1, e1, q1, f1⟩ := m_next (Ln := Ln) ht hn nx.1 nx.2 (show 2 ≤ d + 2 by omega) r.1 h14.2 (r1.trans c)
      rw [if_neg x0, decide_eq_true x0, cond_true, decide_eq_false (show ¬ ¬ s.1 = 0 by omega), cond_false, e1, Option.bind_some]
      exact ⟨σ1, rfl, q1, f1⟩
  · rw [if_neg c]
    by_cases x0 : x = 0
    · obtain ⟨σ1, e1, q1, f1⟩ := m_bad (Ln := Ln) r (show 1 ≤ d + 2 by omega) (show ¬ (1 : Int) = 0 by omega)
      rw [if_neg c] at q1
      rw [decide_eq_false (show ¬ ¬ x = 0 by omega), cond_false, e1, Option.bind_some]
      simp only [decide_eq_true (show ¬ σ1 92 16 = 0 by rw [q1.2.1]; exact c), cond_true]
      exact ⟨σ1, rfl, q1, f1⟩
    · rw [decide_eq_true x0, cond_true, decide_eq_true c]
      exact ⟨σ, rfl, r, frK_rfl _⟩
theorem mu_bad {B : Int → Int} {n x : Int} {s : Int × Int} (h : ¬ s.1 = 0) : muS B n x s = s := if_neg h
theorem m_ltr {Ln : Nat} {n : Int} {tp : Nat → Int} {σ : mmSt} {s : Int × Int} (r : RM n tp σ s) {D : Nat} (hD : 1 ≤ D) {c : Int} (c0 : 97 ≤ c) (c1 : c ≤ 122) : srun (lyT Ln) (D, 167, 0, [mR 92, mI c], [], σ) = some (σ, if s.1 = 0 ∧ byB n tp s.2 = c then 1 else 0) := by
  obtain ⟨d, rfl⟩ := Nat.exists_eq_add_of_le' hD
  rw [b_M_isLetter, r.2.1]
  by_cases h : s.1 = 0
  · obtain ⟨_, h14, h15, _⟩ := r.2.2.2.1 h
    have T := tok_ltr (n := n) (tp := tp) (p := s.2) c0 c1
    rw [decide_eq_false (show ¬ ¬ s.1 = 0 by omega), cond_false, h14, h15]
    by_cases k : byB n tp s.2 = c
    · have t := T.mpr k
      rw [if_pos ⟨h, k⟩, t.1, t.2, decide_eq_false (show ¬ ¬ (2 : Int) = 2 by omega), decide_eq_false (show ¬ ¬ c = c by omega)]; rfl
    · rw [if_neg (fun q => k q.2)]
      by_cases k2 : tokV (byB n tp) n s.2 = 2
      · rw [decide_eq_false (show ¬ ¬ tokV (byB n tp) n s.2 = 2 by omega), decide_eq_true (show ¬ valV (byB n tp) n s.2 = c from fun q => k (T.mp ⟨k2, q⟩))]; rfl
      · rw [decide_eq_true k2]; rfl
  · rw [decide_eq_true h, if_neg (fun q => h q.1)]; rfl
theorem mu_ltr {n : Int} {tp : Nat → Int} {s : Int × Int} {c : Int} (c0 : 97 ≤ c) : muS (byB n tp) n (if s.1 = 0 ∧ byB n tp s.2 = c then 1 else 0) s = exS (byB n tp) c s := by
  unfold muS exS
  by_cases h : s.1 = 0
  · rw [if_pos h, if_pos h]
    by_cases k : byB n tp s.2 = c
    · rw [if_pos (show s.1 = 0 ∧ byB n tp s.2 = c from ⟨h, k⟩), if_pos k, if_neg (by decide), nx_plain (by omega) (dig_no (by omega))]
    · rw [if_neg (show ¬ (s.1 = 0 ∧ byB n tp s.2 = c) from fun q => k q.2), if_neg k, if_pos rfl]
  · rw [if_neg h, if_neg h]
theorem m_sgn {Ln : Nat} {n : Int} {tp : Nat → Int} (ht : ∀ j : Nat, (j : Int) < n → 0 ≤ tp j ∧ tp j ≤ 255) (hn : n ≤ 120) {σ : mmSt} {s : Int × Int} (r : RM n tp σ s) {D : Nat} (hD : 4 ≤ D) {c : Int} (hc : c = 44 ∨ c = 59) : ∃ σ', srun (lyT Ln) (D, 169, 0, [mR 92, mI c], [], σ) = some (σ', 0) ∧ RM n tp σ' (exS (byB n tp) c s) ∧ frK σ σ' := by
  obtain ⟨d, rfl⟩ := Nat.exists_eq_add_of_le' hD
  obtain ⟨σ0, e0, q0, f0⟩ := m_must (Ln := Ln) ht hn r (show 3 ≤ d + 3 by omega) 0
  obtain ⟨σ1, e1, q1, f1⟩ := m_must (Ln := Ln) ht hn r (show 3 ≤ d + 3 by omega) 1
  rw [b_M_mustSign, e0, e1]
  simp only [Option.bind_some]
  by_cases h : s.1 = 0
  · obtain ⟨_, h14, h15, _⟩ := r.2.2.2.1 h
    have T := tok_sgn (n := n) (tp := tp) (p := s.2) hc
    unfold muS at q0 q1
    rw [if_pos h, if_pos rfl] at q0
    rw [if_pos h, if_neg (by decide)] at q1
    unfold exS
    rw [if_pos h, h14, h15]
    by_cases k : byB n tp s.2 = c
    · have t := T.mpr k
      rw [nx_plain (by omega) (dig_no (by omega))] at q1
      rw [if_pos k, t.1, t.2, decide_eq_false (show ¬ ¬ (4 : Int) = 4 by omega), decide_eq_false (show ¬ ¬ c = c by omega)]
      exact ⟨σ1, rfl, q1, f1⟩
    · rw [if_neg k]
      by_cases k2 : tokV (byB n tp) n s.2 = 4
      · rw [decide_eq_false (show ¬ ¬ tokV (byB n tp) n s.2 = 4 by omega), decide_eq_true (show ¬ valV (byB n tp) n s.2 = c from fun q => k (T.mp ⟨k2, q⟩))]
        exact ⟨σ0, rfl, q0, f0⟩
      · rw [decide_eq_true k2]
        exact ⟨σ0, rfl, q0, f0⟩
  · rw [mu_bad h] at q0 q1
    rw [ex_bad h]
    cases decide (¬ σ 92 14 = 4) with
    | true => exact ⟨σ0, rfl, q0, f0⟩
    | false =>
      cases decide (¬ σ 92 15 = c) with
      | true => exact ⟨σ0, rfl, q0, f0⟩
      | false => exact ⟨σ1, rfl, q1, f1⟩
theorem m_num {Ln : Nat} {n : Int} {tp : Nat → Int} (ht : ∀ j : Nat, (j : Int) < n → 0 ≤ tp j ∧ tp j ≤ 255) (hn : n ≤ 120) {σ : mmSt} {s : Int × Int} (r : RM n tp σ s) {D : Nat} (hD : 4 ≤ D) (lo hi bar : Int) (hb : s.1 = 0 → fig (byB n tp) n s.2 = 1 ∨ fig (byB n tp) n s.2 = 2 → numV (byB n tp) n s.2 ≠ bar) : ∃ σ' v, srun (lyT Ln) (D, 168, 0, [mR 92, mI lo, mI hi, mJ], [], σ) = some (σ', v) ∧ RM n tp σ' (nuS (byB n tp) n lo hi bar s).2 ∧ ((nuS (byB n tp) n lo hi bar s).2.1 = 0 → v = (nuS (byB n tp) n lo hi bar s).1) ∧ frK σ σ' := by
  obtain ⟨d, rfl⟩ := Nat.exists_eq_add_of_le' hD
  have r1 := r.2.1
  rw [b_M_number]
  simp only [m_in (show 1 ≤ d + 3 by omega), Option.bind_some, dec1]
  by_cases h : s.1 = 0
  · obtain ⟨_, h14, h15, _⟩ := r.2.2.2.1 h
    have T := tok_num (n := n) (tp := tp) (p := s.2)
    have ff : decide (¬ σ 92 16 = 0) = false := decide_eq_false (by omega)
    unfold nuS
    rw [ff, if_pos h]
    simp only [cond_false]
    by_cases k : fig (byB n tp) n s.2 = 1 ∨ fig (byB n tp) n s.2 = 2
    · have V := num_val k
      rw [if_pos k, h14, T.mpr k, decide_eq_true rfl, cond_true, h15, V.1]
      by_cases g : lo ≤ numV (byB n tp) n s.2 ∧ numV (byB n tp) n s.2 ≤ hi
      · obtain ⟨σ1, e1, q1, f1⟩ := m_must (Ln := Ln) ht hn r (show 3 ≤ d + 3 by omega) 1
        unfold muS at q1
        rw [if_pos h, if_neg (by decide), V.2] at q1
        rw [if_pos ⟨g.1, g.2, hb h k⟩, show btB lo (numV (byB n tp) n s.2) hi = true by unfold btB; simp [g.1, g.2], cond_true, e1]
        exact ⟨σ1, _, rfl, q1, fun _ => rfl, f1⟩
      · obtain ⟨σ1, e1, q1, f1⟩ := m_bad (Ln := Ln) r (show 1 ≤ d + 3 by omega) (show ¬ (2 : Int) = 0 by omega)
        rw [if_pos h] at q1
        obtain ⟨σ2, e2, q2, f2⟩ := m_must (Ln := Ln) ht hn q1 (show 3 ≤ d + 3 by omega) 1
        rw [mu_bad (show ¬ (2 : Int) = 0 by omega)] at q2
        have bf : btB lo (numV (byB n tp) n s.2) hi = false := by
          cases hb : btB lo (numV (byB n tp) n s.2) hi with
          | false => rfl
          | true => exact absurd (btB_t hb) g
        rw [if_neg (fun q => g ⟨q.1, q.2.1⟩), bf, cond_false, e1, Option.bind_some]
        simp only [decide_eq_true (show ¬ σ1 92 16 = 0 by rw [q1.2.1]; show ¬ (2 : Int) = 0; omega), cond_true, e2, Option.bind_some]
        exact ⟨σ2, _, rfl, q2, fun q => absurd q (show ¬ (2 : Int) = 0 by omega), frK_trans f1 f2⟩
    · obtain ⟨σ1, e1, q1, f1⟩ := m_bad (Ln := Ln) r (show 1 ≤ d + 3 by omega) (show ¬ (1 : Int) = 0 by omega)
      rw [if_pos h] at q1
      obtain ⟨σ2, e2, q2, f2⟩ := m_must (Ln := Ln) ht hn q1 (show 3 ≤ d + 3 by omega) 1
      rw [mu_bad (show ¬ (1 : Int) = 0 by omega)] at q2
      rw [if_neg k, h14, decide_eq_false (fun q => k (T.mp q)), cond_false, e1, Option.bind_some]
      simp only [decide_eq_true (show ¬ σ1 92 16 = 0 by rw [q1.2.1]; show ¬ (1 : Int) = 0; omega), cond_true, e2, Option.bind_some]
      exact ⟨σ2, _, rfl, q2, fun q => absurd q (show ¬ (1 : Int) = 0 by omega), frK_trans f1 f2⟩
  · obtain ⟨σ1, e1, q1, f1⟩ := m_must (Ln := Ln) ht hn r (show 3 ≤ d + 3 by omega) 1
    rw [mu_bad h] at q1
    rw [nu_bad h, decide_eq_true (show ¬ σ 92 16 = 0 by omega)]
    simp only [cond_true]
    rw [e1]
    exact ⟨σ1, _, rfl, q1, fun q => absurd q h, f1⟩
