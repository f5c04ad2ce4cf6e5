/-! county: the model's tokens -/
def tokV (B : Int → Int) (n p : Int) : Int := if p = n then 1 else if btB 97 (B p) 122 = true then 2 else if digB B p = true then (if fig B n p ≤ 2 then 3 else 0) else if B p = 44 ∨ B p = 59 then 4 else 0
def valV (B : Int → Int) (n p : Int) : Int := if p = n then -1000000 else if digB B p = true then numV B n p else B p
def nxV (B : Int → Int) (n p : Int) : Int := if p = n then n else if digB B p = true then p + fig B n p else p + 1
def TM (n : Int) (tp : Nat → Int) (σ : mmSt) : Prop := σ 92 11 = n ∧ ∀ j : Nat, (j : Int) < n → σ 100 j = tp j
def RM (n : Int) (tp : Nat → Int) (σ : mmSt) (s : Int × Int) : Prop := TM n tp σ ∧ σ 92 16 = s.1 ∧ (0 ≤ s.2 ∧ s.2 ≤ n) ∧ (s.1 = 0 → σ 92 13 = s.2 ∧ σ 92 14 = tokV (byB n tp) n s.2 ∧ σ 92 15 = valV (byB n tp) n s.2 ∧ σ 92 12 = nxV (byB n tp) n s.2) ∧ (¬ s.1 = 0 → σ 92 17 = s.2)
def frK (σ σ' : mmSt) : Prop := ∀ b j, ¬ (b = 92 ∧ 12 ≤ j ∧ j ≤ 17) → σ' b j = σ b j
theorem frK_rfl (σ : mmSt) : frK σ σ := fun _ _ _ => rfl
theorem frK_trans {a b c : mmSt} (h : frK a b) (k : frK b c) : frK a c := fun x j q => (k x j q).trans (h x j q)
theorem TM_fr {n : Int} {tp : Nat → Int} {σ σ' : mmSt} (t : TM n tp σ) (f : frK σ σ') : TM n tp σ' := ⟨(f 92 11 (by omega)).trans t.1, fun j hj => (f 100 j (by omega)).trans (t.2 j hj)⟩
theorem by_lt {n : Int} {tp : Nat → Int} {p : Int} (p0 : 0 ≤ p) (p1 : p < n) : byB n tp p = tp (Int.toNat p) := if_pos ⟨p0, p1⟩
theorem fig_S {B : Int → Int} {n p : Int} (h : p < n) (d : digB B p = true) : fig B n p = 1 + figL B (Int.toNat (n - (p + 1))) (p + 1) := by
  unfold fig
  rw [show Int.toNat (n - p) = Int.toNat (n - (p + 1)) + 1 by omega, figL, d]; rfl
theorem m_tok79 {Ln : Nat} {n : Int} {tp : Nat → Int} (ht : ∀ j : Nat, (j : Int) < n → 0 ≤ tp j ∧ tp j ≤ 255) (hn : n ≤ 120) {p : Int} (p0 : 0 ≤ p) (dp0 : digB (byB n tp) p = true) {D : Nat} (hD : 2 ≤ D) : ∀ (m : Nat) (c : Int) (σ : mmSt), TM n tp σ → σ 92 12 = c → σ 92 13 = p → c + m = n → p < c → σ 92 15 = (if c - p = 1 then byB n tp p - 48 else 10 * (byB n tp p - 48) + byB n tp (p + 1) - 48) → ∃ σ', srun (lyT Ln) (D, 165, 79, [mR 92], [], σ) = some (σ', 0) ∧ σ' 92 12 = c + figL (byB n tp) m c ∧ σ' 92 14 = (if c - p + figL (byB n tp) m c ≤ 2 then 3 else 0) ∧ σ' 92 15 = (if c - p + figL (byB n tp) m c = 1 then byB n tp p - 48 else 10 * (byB n tp p - 48) + byB n tp (p + 1) - 48) ∧ ∀ b j, ¬ (b = 92 ∧ (j = 12 ∨ j = 14 ∨ j = 15)) → σ' b j = σ b j := by
  obtain ⟨d, rfl⟩ := Nat.exists_eq_add_of_le' hD
  have bp := by_rng ht p
  have bp1 := by_rng ht (p + 1)
  intro m
  induction m with
  | zero =>
    intro c σ t h12 h13 e pc h15
    rw [b_M_nextToken_79, t.1, h12, h13, decide_eq_true (show n ≤ c by omega), cond_true, mw (by omega) (by omega)]
    have z : figL (byB n tp) 0 c = 0 := rfl
    rw [z, Int.add_zero, Int.add_zero]
    by_cases k : c - p ≤ 2
    · rw [decide_eq_true k, if_pos k]
      exact ⟨_, rfl, (mup_ne (by omega)).trans h12, mup_eq _ _ _ _, (mup_ne (by omega)).trans h15, fun b j q => mup_ne (by omega)⟩
    · rw [decide_eq_false k, if_neg k]
      exact ⟨_, rfl, (mup_ne (by omega)).trans h12, mup_eq _ _ _ _, (mup_ne (by omega)).trans h15, fun b j q => mup_ne (by omega)⟩
  | succ m ih =>
    intro c σ t h12 h13 e pc h15
    have tb : σ 100 (Int.toNat c) = byB n tp c := by rw [by_lt (by omega) (by omega)]; exact t.2 _ (by omega)
    have bc := by_rng ht c
    rw [b_M_nextToken_79]
    simp only [t.1, h12, h13, decide_eq_false (show ¬ n ≤ c by omega), cond_false, minb_t (show 0 ≤ c by omega) (show c < ((120 : Nat) : Int) by omega), cond_true, tb, m_in (show 1 ≤ d + 1 by omega), Option.bind_some, dec0, mw (show -2147483648 ≤ c - p by omega) (show c - p < 2147483648 by omega)]
    have hd : btB 48 (byB n tp c) 57 = digB (byB n tp) c := rfl
    rw [hd, figL]
    cases hc : digB (byB n tp) c
    · show ∃ σ', (bif decide (c - p ≤ 2) then some (mup σ 92 14 3, 0) else some (mup σ 92 14 0, 0)) = some (σ', 0) ∧ σ' 92 12 = c + 0 ∧ σ' 92 14 = (if c - p + 0 ≤ 2 then 3 else 0) ∧ σ' 92 15 = (if c - p + 0 = 1 then byB n tp p - 48 else 10 * (byB n tp p - 48) + byB n tp (p + 1) - 48) ∧ _
      rw [Int.add_zero, Int.add_zero]
      by_cases k : c - p ≤ 2
      · rw [decide_eq_true k, if_pos k]
        exact ⟨_, rfl, (mup_ne (by omega)).trans h12, mup_eq _ _ _ _, (mup_ne (by omega)).trans h15, fun b j q => mup_ne (by omega)⟩
      · rw [decide_eq_false k, if_neg k]
        exact ⟨_, rfl, (mup_ne (by omega)).trans h12, mup_eq _ _ _ _, (mup_ne (by omega)).trans h15, fun b j q => mup_ne (by omega)⟩
    · have go : ∀ v : Int, v = (if c + 1 - p = 1 then byB n tp p - 48 else 10 * (byB n tp p - 48) + byB n tp (p + 1) - 48) → ∃ σ', srun (lyT Ln) (d + 2, 165, 79, [mR 92], [], mup (mup σ 92 15 v) 92 12 (c + 1)) = some (σ', 0) ∧ σ' 92 12 = c + (1 + figL (byB n tp) m (c + 1)) ∧ σ' 92 14 = (if c - p + (1 + figL (byB n tp) m (c + 1)) ≤ 2 then 3 else 0) ∧ σ' 92 15 = (if c - p + (1 + figL (byB n tp) m (c + 1)) = 1 then byB n tp p - 48 else 10 * (byB n tp p - 48) + byB n tp (p + 1) - 48) ∧ ∀ b j, ¬ (b = 92 ∧ (j = 12 ∨ j = 14 ∨ j = 15)) → σ' b j = σ b j := by
        intro v hv
        obtain ⟨σ', e1, g1, g2, g3, f1⟩ := ih (c + 1) (mup (mup σ 92 15 v) 92 12 (c + 1)) (TM_fr t (fun b j q => by rw [mup_ne (by omega), mup_ne (by omega)])) (mup_eq _ _ _ _) (by rw [mup_ne (by omega), mup_ne (by omega)]; exact h13) (by omega) (by omega) (by rw [mup_ne (by omega), mup_eq]; exact hv)
        rw [show c + 1 + figL (byB n tp) m (c + 1) = c + (1 + figL (byB n tp) m (c + 1)) by omega] at g1
        rw [show c + 1 - p + figL (byB n tp) m (c + 1) = c - p + (1 + figL (byB n tp) m (c + 1)) by omega] at g2 g3
        exact ⟨σ', e1, g1, g2, g3, fun b j q => (f1 b j q).trans (by rw [mup_ne (by omega), mup_ne (by omega)])⟩
      simp only [Bool.not_true, cond_false, cond_true]
      by_cases k : 2 ≤ c - p
      · rw [decide_eq_true k, cond_true]
        simp (discharger := omega) only [mup_ne, h12, mw]
        exact go _ (by rw [h15, if_neg (by omega), if_neg (by omega)])
      · rw [decide_eq_false k, cond_false]
        have k1 : c - p = 1 := by omega
        rw [if_pos k1] at h15
        simp (discharger := omega) only [mup_ne, h12, h15, mw]
        refine go _ ?_
        rw [if_neg (by omega), show p + 1 = c by omega]
theorem nx_in {B : Int → Int} {n p : Int} (h : p ≤ n) (h0 : 0 ≤ p) : 0 ≤ nxV B n p ∧ nxV B n p ≤ n := by
  have := fig_in (B := B) h
  unfold nxV
  split
  · omega
  · split <;> omega
theorem m_next {Ln : Nat} {n : Int} {tp : Nat → Int} (ht : ∀ j : Nat, (j : Int) < n → 0 ≤ tp j ∧ tp j ≤ 255) (hn : n ≤ 120) {p : Int} (p0 : 0 ≤ p) (p1 : p ≤ n) {D : Nat} (hD : 2 ≤ D) {σ : mmSt} (t : TM n tp σ) (h12 : σ 92 12 = p) (h16 : σ 92 16 = 0) : ∃ σ', srun (lyT Ln) (D, 165, 0, [mR 92], [], σ) = some (σ', 0) ∧ RM n tp σ' (0, p) ∧ frK σ σ' := by
  obtain ⟨d, rfl⟩ := Nat.exists_eq_add_of_le' hD
  rw [b_M_nextToken]
  have t11 := t.1
  by_cases c : p = n
  · simp (discharger := omega) only [mup_ne, h12, t11, decide_eq_true (show n ≤ p by omega), cond_true, decide_eq_false (show ¬ ¬ p = n by omega), cond_false, mup_eq, decide_eq_true (show ¬ (1 : Int) = 3 by omega), mw]
    refine ⟨_, rfl, ⟨TM_fr t (fun b j q => by simp (discharger := omega) only [mup_ne]), ?_, ⟨p0, p1⟩, fun _ => ⟨?_, ?_, ?_, ?_⟩, fun q => absurd rfl q⟩, fun b j q => by simp (discharger := omega) only [mup_ne]⟩
    · simp (discharger := omega) only [mup_ne]; exact h16
    · simp (discharger := omega) only [mup_ne, mup_eq]
    · simp (discharger := omega) only [mup_ne, mup_eq]; exact (if_pos c).symm
    · simp (discharger := omega) only [mup_ne, mup_eq]; exact (if_pos c).symm
    · simp (discharger := omega) only [mup_eq]; rw [Int.add_zero]; exact c.trans (if_pos c).symm
  · have tb : σ 100 (Int.toNat p) = byB n tp p := by rw [by_lt p0 (by omega)]; exact t.2 _ (by omega)
    have bp := by_rng ht p
    simp (discharger := omega) only [mup_ne, h12, t11, decide_eq_false (show ¬ n ≤ p by omega), cond_false, minb_t p0 (show p < ((120 : Nat) : Int) by omega), cond_true, decide_eq_true c, mup_eq, tb, m_in (show 1 ≤ d + 1 by omega), Option.bind_some, dec0, decide_eq_true (show ¬ (2 : Int) = 3 by omega), decide_eq_true (show ¬ (4 : Int) = 3 by omega), decide_eq_true (show ¬ (0 : Int) = 3 by omega), mw (show -2147483648 ≤ p + 1 by omega) (show p + 1 < 2147483648 by omega)]
    have tv : ∀ k, tokV (byB n tp) n p = k ↔ (if btB 97 (byB n tp p) 122 = true then 2 else if digB (byB n tp) p = true then (if fig (byB n tp) n p ≤ 2 then 3 else 0) else if byB n tp p = 44 ∨ byB n tp p = 59 then 4 else 0) = k := fun k => by unfold tokV; rw [if_neg c]
    have simple : ∀ k : Int, digB (byB n tp) p = false → tokV (byB n tp) n p = k → ∃ σ', some (mup (mup (mup (mup σ 92 13 p) 92 15 (byB n tp p)) 92 14 k) 92 12 (p + 1), (0 : Int)) = some (σ', 0) ∧ RM n tp σ' (0, p) ∧ frK σ σ' := by
      intro k hd hk
      refine ⟨_, rfl, ⟨TM_fr t (fun b j q => by simp (discharger := omega) only [mup_ne]), ?_, ⟨p0, p1⟩, fun _ => ⟨?_, ?_, ?_, ?_⟩, fun q => absurd rfl q⟩, fun b j q => by simp (discharger := omega) only [mup_ne]⟩
      · simp (discharger := omega) only [mup_ne]; exact h16
      · simp (discharger := omega) only [mup_ne, mup_eq]
      · simp (discharger := omega) only [mup_ne, mup_eq]; exact hk.symm
      · simp (discharger := omega) only [mup_ne, mup_eq]; unfold valV; rw [if_neg c, hd]; rfl
      · simp (discharger := omega) only [mup_eq]; unfold nxV; rw [if_neg c, hd]; rfl
    cases ha : btB 97 (byB n tp p) 122
    · cases hd : btB 48 (byB n tp p) 57
      · have hd' : digB (byB n tp) p = false := hd
        by_cases c44 : byB n tp p = 44
        · simp only [Bool.not_false, cond_true, decide_eq_true c44]
          exact simple 4 hd' ((tv 4).mpr (by rw [ha, hd', if_neg (by decide), if_neg (by decide), if_pos (.inl c44)]))
        · by_cases c59 : byB n tp p = 59
          · simp only [Bool.not_false, cond_true, decide_eq_false c44, cond_false, decide_eq_false (show ¬ ¬ byB n tp p = 59 by omega)]
            exact simple 4 hd' ((tv 4).mpr (by rw [ha, hd', if_neg (by decide), if_neg (by decide), if_pos (.inr c59)]))
          · simp only [Bool.not_false, cond_true, decide_eq_false c44, cond_false, decide_eq_true c59]
            exact simple 0 hd' ((tv 0).mpr (by rw [ha, hd', if_neg (by decide), if_neg (by decide), if_neg (by omega)]))
      · have hd' : digB (byB n tp) p = true := hd
        simp only [Bool.not_false, Bool.not_true, cond_true, cond_false, decide_eq_false (show ¬ ¬ (3 : Int) = 3 by omega)]
        rw [mw (by omega) (by omega)]
        obtain ⟨σ', e1, g1, g2, g3, f1⟩ := m_tok79 (Ln := Ln) ht hn p0 hd' (show 2 ≤ d + 2 by omega) (Int.toNat (n - (p + 1))) (p + 1) (mup (mup (mup (mup (mup σ 92 13 p) 92 15 (byB n tp p)) 92 14 3) 92 12 (p + 1)) 92 15 (byB n tp p - 48)) (TM_fr t (fun b j q => by simp (discharger := omega) only [mup_ne])) (by simp (discharger := omega) only [mup_ne, mup_eq]) (by simp (discharger := omega) only [mup_ne, mup_eq]) (by omega) (by omega) (by rw [mup_eq, if_pos (by omega)])
        have fs := fig_S (B := byB n tp) (show p < n by omega) hd'
        rw [show p + 1 - p = 1 by omega, ← fs] at g2 g3
        rw [show p + 1 + figL (byB n tp) (Int.toNat (n - (p + 1))) (p + 1) = p + fig (byB n tp) n p by omega] at g1
        refine ⟨σ', e1, ⟨TM_fr t (fun b j q => (f1 b j (by omega)).trans (by simp (discharger := omega) only [mup_ne])), ?_, ⟨p0, p1⟩, fun _ => ⟨?_, ?_, ?_, ?_⟩, fun q => absurd rfl q⟩, fun b j q => (f1 b j (by omega)).trans (by simp (discharger := omega) only [mup_ne])⟩
        · rw [f1 92 16 (by omega)]; simp (discharger := omega) only [mup_ne]; exact h16
        · rw [f1 92 13 (by omega)]; simp (discharger := omega) only [mup_ne, mup_eq]
        · rw [g2]; refine ((tv _).mpr ?_).symm; rw [ha, hd', if_neg (by decide), if_pos rfl]
        · rw [g3]; unfold valV; rw [if_neg c, if_pos hd']; rfl
        · rw [g1]; unfold nxV; rw [if_neg c, if_pos hd']
    · have hd' : digB (byB n tp) p = false := by
        have := btB_t ha
        unfold digB btB
        rw [decide_eq_false (show ¬ byB n tp p ≤ 57 by omega), Bool.and_false]
      simp only [Bool.not_true, cond_false, cond_true]
      exact simple 2 hd' ((tv 2).mpr (by rw [ha, if_pos rfl]))
