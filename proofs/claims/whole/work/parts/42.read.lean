/-! county: what is read -/
def byB (n : Int) (tp : Nat → Int) (p : Int) : Int := if 0 ≤ p ∧ p < n then tp (Int.toNat p) else -1
def digB (B : Int → Int) (p : Int) : Bool := btB 48 (B p) 57
def figL (B : Int → Int) : Nat → Int → Int
  | 0, _ => 0
  | m + 1, p => bif digB B p then 1 + figL B m (p + 1) else 0
def fig (B : Int → Int) (n p : Int) : Int := figL B (Int.toNat (n - p)) p
def numV (B : Int → Int) (n p : Int) : Int := if fig B n p = 1 then B p - 48 else 10 * (B p - 48) + B (p + 1) - 48
def exS (B : Int → Int) (c : Int) (s : Int × Int) : Int × Int := if s.1 = 0 then (if B s.2 = c then (0, s.2 + 1) else (1, s.2)) else s
def nuS (B : Int → Int) (n lo hi bar : Int) (s : Int × Int) : Int × (Int × Int) := if s.1 = 0 then (if fig B n s.2 = 1 ∨ fig B n s.2 = 2 then (if lo ≤ numV B n s.2 ∧ numV B n s.2 ≤ hi ∧ numV B n s.2 ≠ bar then (numV B n s.2, (0, s.2 + fig B n s.2)) else (0, (2, s.2))) else (0, (1, s.2))) else (0, s)
theorem ex_bad {B : Int → Int} {c : Int} {s : Int × Int} (h : ¬ s.1 = 0) : exS B c s = s := if_neg h
theorem nu_bad {B : Int → Int} {n lo hi bar : Int} {s : Int × Int} (h : ¬ s.1 = 0) : nuS B n lo hi bar s = (0, s) := if_neg h
theorem by_dig {n : Int} {tp : Nat → Int} {p : Int} (h : digB (byB n tp) p = true) : 0 ≤ p ∧ p < n := by
  have := btB_t h
  unfold byB at this
  by_cases c : 0 ≤ p ∧ p < n
  · exact c
  · rw [if_neg c] at this; omega
theorem by_in {n : Int} {tp : Nat → Int} {p c : Int} (h : byB n tp p = c) (hc : 0 ≤ c) : 0 ≤ p ∧ p < n := by
  unfold byB at h
  by_cases q : 0 ≤ p ∧ p < n
  · exact q
  · rw [if_neg q] at h; omega
theorem figL_in {B : Int → Int} : ∀ (m : Nat) (p : Int), 0 ≤ figL B m p ∧ figL B m p ≤ m := by
  intro m
  induction m with
  | zero => intro p; exact ⟨Int.le_refl _, Int.le_refl _⟩
  | succ m ih =>
    intro p
    have := ih (p + 1)
    rw [figL]
    cases digB B p
    · exact ⟨Int.le_refl _, by show (0 : Int) ≤ ((m + 1 : Nat) : Int); omega⟩
    · show 0 ≤ 1 + figL B m (p + 1) ∧ 1 + figL B m (p + 1) ≤ ((m + 1 : Nat) : Int)
      omega
theorem fig_in {B : Int → Int} {n p : Int} (h : p ≤ n) : 0 ≤ fig B n p ∧ p + fig B n p ≤ n := by
  have := figL_in (B := B) (Int.toNat (n - p)) p
  unfold fig
  omega
/-- the class's side -/
def TX (n : Int) (tp : Nat → Int) (σ : mmSt) : Prop := σ 9 1 = n ∧ ∀ j : Nat, (j : Int) < n → σ 20 j = tp j
def RX (n : Int) (tp : Nat → Int) (σ : mmSt) (s : Int × Int) : Prop := TX n tp σ ∧ σ 9 5 = s.1 ∧ σ 9 4 = s.2 ∧ 0 ≤ s.2 ∧ s.2 ≤ n
def frR (σ σ' : mmSt) : Prop := ∀ b j, ¬ (b = 9 ∧ (j = 4 ∨ j = 5)) → σ' b j = σ b j
theorem frR_rfl (σ : mmSt) : frR σ σ := fun _ _ _ => rfl
theorem frR_trans {a b c : mmSt} (h : frR a b) (k : frR b c) : frR a c := fun x j q => (k x j q).trans (h x j q)
theorem TX_fr {n : Int} {tp : Nat → Int} {σ σ' : mmSt} (t : TX n tp σ) (f : ∀ b j, (b = 9 ∧ j = 1) ∨ b = 20 → σ' b j = σ b j) : TX n tp σ' := ⟨(f 9 1 (by omega)).trans t.1, fun j hj => (f 20 j (by omega)).trans (t.2 j hj)⟩
theorem x_byte {Ln : Nat} {n : Int} {tp : Nat → Int} {σ : mmSt} (t : TX n tp σ) (hn : n ≤ 120) {D : Nat} (hD : 1 ≤ D) (p : Int) : srun (lyT Ln) (D, 58, 0, [mR 9, mI p], [], σ) = some (σ, byB n tp p) := by
  obtain ⟨d, rfl⟩ := Nat.exists_eq_add_of_le' hD
  unfold byB
  rw [b_Reader_byteAt, t.1]
  by_cases c : p < 0
  · rw [decide_eq_true c, if_neg (by omega)]; rfl
  · rw [decide_eq_false c, cond_false]
    by_cases c2 : n ≤ p
    · rw [decide_eq_true c2, if_neg (by omega)]; rfl
    · rw [decide_eq_false c2, if_pos (by omega), cond_false, minb_t (by omega) (by omega), t.2 _ (by omega)]; rfl
theorem x_next {Ln : Nat} {n : Int} {tp : Nat → Int} {σ : mmSt} {s : Int × Int} (r : RX n tp σ s) (hn : n ≤ 120) {D : Nat} (hD : 2 ≤ D) : srun (lyT Ln) (D, 57, 0, [mR 9], [], σ) = some (σ, byB n tp s.2) := by
  obtain ⟨d, rfl⟩ := Nat.exists_eq_add_of_le' hD
  rw [b_Reader_next, r.2.2.1, x_byte r.1 hn (by omega)]; rfl
theorem x_fail {Ln : Nat} {n : Int} {tp : Nat → Int} {σ : mmSt} {s : Int × Int} (r : RX n tp σ s) {D : Nat} (hD : 1 ≤ D) (k : Int) : ∃ σ', srun (lyT Ln) (D, 56, 0, [mR 9, mI k], [], σ) = some (σ', 0) ∧ RX n tp σ' (if s.1 = 0 then (k, s.2) else s) ∧ frR σ σ' := by
  obtain ⟨d, rfl⟩ := Nat.exists_eq_add_of_le' hD
  rw [b_Reader_fail, r.2.1]
  by_cases c : s.1 = 0
  · rw [decide_eq_false (show ¬ ¬ s.1 = 0 by omega), if_pos c]
    exact ⟨_, rfl, ⟨TX_fr r.1 (fun b j h => mup_ne (by omega)), mup_eq _ _ _ _, (mup_ne (by omega)).trans r.2.2.1, r.2.2.2⟩, fun b j h => mup_ne (by omega)⟩
  · rw [decide_eq_true c, if_neg c]
    exact ⟨σ, rfl, r, frR_rfl _⟩
theorem x_expect {Ln : Nat} {n : Int} {tp : Nat → Int} {σ : mmSt} {s : Int × Int} (r : RX n tp σ s) (hn : n ≤ 120) {D : Nat} (hD : 3 ≤ D) {c : Int} (c0 : 0 ≤ c) : ∃ σ', srun (lyT Ln) (D, 59, 0, [mR 9, mI c], [], σ) = some (σ', 0) ∧ RX n tp σ' (exS (byB n tp) c s) ∧ frR σ σ' := by
  obtain ⟨d, rfl⟩ := Nat.exists_eq_add_of_le' hD
  unfold exS
  rw [b_Reader_expect, r.2.1]
  by_cases h : s.1 = 0
  · rw [decide_eq_true h, if_pos h, cond_true, x_next r hn (by omega), Option.bind_some]
    by_cases e : byB n tp s.2 = c
    · have pi := by_in e c0
      rw [if_pos e]
      simp only [decide_eq_false (show ¬ ¬ byB n tp s.2 = c by omega), cond_false, r.2.2.1, mw (show -2147483648 ≤ s.2 + 1 by omega) (show s.2 + 1 < 2147483648 by omega)]
      exact ⟨_, rfl, ⟨TX_fr r.1 (fun b j h => mup_ne (by omega)), (mup_ne (by omega)).trans (r.2.1.trans h), mup_eq _ _ _ _, by show 0 ≤ s.2 + 1; omega, by show s.2 + 1 ≤ n; omega⟩, fun b j h => mup_ne (by omega)⟩
    · obtain ⟨σ', e1, r1, f1⟩ := x_fail (Ln := Ln) r (show 1 ≤ d + 2 by omega) 1
      rw [if_pos h] at r1
      rw [if_neg e]
      simp only [decide_eq_true e, cond_true, e1, Option.bind_some]
      exact ⟨σ', rfl, r1, f1⟩
  · rw [decide_eq_false h, if_neg h]
    exact ⟨σ, rfl, r, frR_rfl _⟩
theorem x_figs {Ln : Nat} {n : Int} {tp : Nat → Int} {σ : mmSt} {s : Int × Int} (r : RX n tp σ s) (hn : n ≤ 120) {D : Nat} (hD : 2 ≤ D) : srun (lyT Ln) (D, 63, 0, [mR 9, mJ, mJ], [], σ) = some (σ, fig (byB n tp) n s.2) := by
  obtain ⟨d, rfl⟩ := Nat.exists_eq_add_of_le' hD
  rw [b_Reader_figuresHere, r.2.2.1]
  have L : ∀ (m : Nat) (p k : Int), p + m = n → 0 ≤ p → 0 ≤ k → k ≤ p → srun (lyT Ln) (d + 2, 63, 5, [mR 9, mI k, mI p], [], σ) = some (σ, k + figL (byB n tp) m p) := by
    intro m
    induction m with
    | zero =>
      intro p k e p0 k0 k1
      rw [b_Reader_figuresHere_5, r.1.1, decide_eq_true (by omega), cond_true, figL]
      rw [Int.add_zero]
    | succ m ih =>
      intro p k e p0 k0 k1
      rw [b_Reader_figuresHere_5, r.1.1, decide_eq_false (by omega), cond_false, x_byte r.1 hn (by omega), Option.bind_some]
      simp only [x_within (show 1 ≤ d + 1 by omega), Option.bind_some, dec0, mw (show -2147483648 ≤ k + 1 by omega) (show k + 1 < 2147483648 by omega), mw (show -2147483648 ≤ p + 1 by omega) (show p + 1 < 2147483648 by omega)]
      rw [ih (p + 1) (k + 1) (by omega) (by omega) (by omega) (by omega), figL]
      have hd : digB (byB n tp) p = btB 48 (byB n tp p) 57 := rfl
      rw [← hd]
      cases digB (byB n tp) p
      · show some (σ, k) = some (σ, k + 0); rw [Int.add_zero]
      · show some (σ, k + 1 + figL (byB n tp) m (p + 1)) = some (σ, k + (1 + figL (byB n tp) m (p + 1))); rw [Int.add_assoc]
  have l0 := L (Int.toNat (n - s.2)) s.2 0 (by have := r.2.2.2; omega) r.2.2.2.1 (by omega) r.2.2.2.1
  rw [Int.zero_add] at l0
  exact l0
theorem by_rng {n : Int} {tp : Nat → Int} (ht : ∀ j : Nat, (j : Int) < n → 0 ≤ tp j ∧ tp j ≤ 255) (p : Int) : -1 ≤ byB n tp p ∧ byB n tp p ≤ 255 := by
  unfold byB
  split
  · rename_i h
    have := ht (Int.toNat p) (by omega)
    omega
  · omega
theorem x_number {Ln : Nat} {n : Int} {tp : Nat → Int} (ht : ∀ j : Nat, (j : Int) < n → 0 ≤ tp j ∧ tp j ≤ 255) {σ : mmSt} {s : Int × Int} (r : RX n tp σ s) (hn : n ≤ 120) {D : Nat} (hD : 3 ≤ D) (lo hi bar : Int) : ∃ σ', srun (lyT Ln) (D, 62, 0, [mR 9, mI lo, mI hi, mI bar, mJ, mJ, mJ], [], σ) = some (σ', (nuS (byB n tp) n lo hi bar s).1) ∧ RX n tp σ' (nuS (byB n tp) n lo hi bar s).2 ∧ frR σ σ' := by
  obtain ⟨d, rfl⟩ := Nat.exists_eq_add_of_le' hD
  have b0 := by_rng ht s.2
  have b1 := by_rng ht (s.2 + 1)
  have si := r.2.2.2
  have fi := fig_in (B := byB n tp) si.2
  unfold nuS
  rw [b_Reader_number, r.2.1]
  by_cases h : s.1 = 0
  · rw [decide_eq_true h, if_pos h, cond_true, x_figs r hn (by omega), Option.bind_some]
    have fl : ∀ k : Int, ∃ σ', srun (lyT Ln) (d + 2, 56, 0, [mR 9, mI k], [], σ) = some (σ', 0) ∧ RX n tp σ' (k, s.2) ∧ frR σ σ' := fun k => by
      obtain ⟨σ', e1, r1, f1⟩ := x_fail (Ln := Ln) r (show 1 ≤ d + 2 by omega) k
      rw [if_pos h] at r1
      exact ⟨σ', e1, r1, f1⟩
    by_cases c : fig (byB n tp) n s.2 = 1 ∨ fig (byB n tp) n s.2 = 2
    · rw [if_pos c]
      have V : srun (lyT Ln) (d + 3, 62, 23, [mR 9, mI lo, mI hi, mI bar, mI (fig (byB n tp) n s.2), mI 0, mI 0], [], σ) = srun (lyT Ln) (d + 3, 62, 23, [mR 9, mI lo, mI hi, mI bar, mI (fig (byB n tp) n s.2), mI (numV (byB n tp) n s.2), mI (fig (byB n tp) n s.2)], [], σ) := by
        rw [b_Reader_number_23, decide_eq_false (by omega), cond_false, r.2.2.1, mw (z := s.2 + 0) (by omega) (by omega), Int.add_zero, x_byte r.1 hn (by omega), Option.bind_some]
        unfold numV
        rcases c with c | c
        · rw [c, if_pos rfl]
          show srun (lyT Ln) (d + 3, 62, 23, [mR 9, mI lo, mI hi, mI bar, mI 1, mI (mwrap (mwrap (0 + byB n tp s.2) - 48)), mI 1], [], σ) = _
          rw [Int.zero_add, mw (z := byB n tp s.2) (by omega) (by omega), mw (by omega) (by omega)]
        · rw [c, if_neg (by omega)]
          show srun (lyT Ln) (d + 3, 62, 23, [mR 9, mI lo, mI hi, mI bar, mI 2, mI (mwrap (mwrap (0 + byB n tp s.2) - 48)), mI 1], [], σ) = _
          rw [Int.zero_add, mw (z := byB n tp s.2) (by omega) (by omega), mw (z := byB n tp s.2 - 48) (by omega) (by omega), b_Reader_number_23, decide_eq_false (show ¬ (2 : Int) ≤ 1 by omega), cond_false, r.2.2.1, mw (z := s.2 + 1) (by omega) (by omega), x_byte r.1 hn (by omega), Option.bind_some]
          show srun (lyT Ln) (d + 3, 62, 23, [mR 9, mI lo, mI hi, mI bar, mI 2, mI (mwrap (mwrap (mwrap ((byB n tp s.2 - 48) * 10) + byB n tp (s.2 + 1)) - 48)), mI 2], [], σ) = _
          rw [mw (z := (byB n tp s.2 - 48) * 10) (by omega) (by omega), mw (z := (byB n tp s.2 - 48) * 10 + byB n tp (s.2 + 1)) (by omega) (by omega), mw (by omega) (by omega), show (byB n tp s.2 - 48) * 10 + byB n tp (s.2 + 1) - 48 = 10 * (byB n tp s.2 - 48) + byB n tp (s.2 + 1) - 48 by omega]
      simp only [decide_eq_false (show ¬ fig (byB n tp) n s.2 < 1 by omega), decide_eq_true (show fig (byB n tp) n s.2 ≤ 2 by omega), cond_false, cond_true]
      rw [V, b_Reader_number_23, decide_eq_true (Int.le_refl _), cond_true, x_within (by omega), Option.bind_some]
      simp only [dec0, r.2.2.1, mw (show -2147483648 ≤ s.2 + fig (byB n tp) n s.2 by omega) (show s.2 + fig (byB n tp) n s.2 < 2147483648 by omega)]
      obtain ⟨σ', e1, r1, f1⟩ := fl 2
      by_cases g : lo ≤ numV (byB n tp) n s.2 ∧ numV (byB n tp) n s.2 ≤ hi ∧ numV (byB n tp) n s.2 ≠ bar
      · rw [if_pos g, show btB lo (numV (byB n tp) n s.2) hi = true by unfold btB; simp [g.1, g.2.1], decide_eq_true g.2.2]
        exact ⟨_, rfl, ⟨TX_fr r.1 (fun b j h => mup_ne (by omega)), (mup_ne (by omega)).trans (r.2.1.trans h), mup_eq _ _ _ _, by show 0 ≤ s.2 + fig (byB n tp) n s.2; omega, by show s.2 + fig (byB n tp) n s.2 ≤ n; omega⟩, fun b j h => mup_ne (by omega)⟩
      · rw [if_neg g]
        simp only [e1, Option.bind_some]
        refine ⟨σ', ?_, r1, f1⟩
        cases hb : btB lo (numV (byB n tp) n s.2) hi
        · rfl
        · have := btB_t hb
          rw [decide_eq_false (show ¬ ¬ numV (byB n tp) n s.2 = bar from fun q => g ⟨this.1, this.2, q⟩)]; rfl
    · obtain ⟨σ', e1, r1, f1⟩ := fl 1
      rw [if_neg c]
      simp only [e1, Option.bind_some]
      refine ⟨σ', ?_, r1, f1⟩
      by_cases c1 : fig (byB n tp) n s.2 < 1
      · rw [decide_eq_true c1]; rfl
      · rw [decide_eq_false c1, decide_eq_false (show ¬ fig (byB n tp) n s.2 ≤ 2 by omega)]; rfl
  · rw [decide_eq_false h, if_neg h]
    exact ⟨σ, rfl, r, frR_rfl _⟩
def kdC (x : Int) : Int := if x = 98 then 4 else if x = 107 then 3 else if x = 109 then 5 else if x = 112 then 1 else if x = 116 then 2 else 0
theorem x_kind {Ln : Nat} {σ : mmSt} {D : Nat} (hD : 1 ≤ D) (x : Int) : srun (lyT Ln) (D, 61, 0, [mI x], [], σ) = some (σ, kdC x) := by
  obtain ⟨d, rfl⟩ := Nat.exists_eq_add_of_le' hD
  unfold kdC
  rw [b_Reader_kindOf]
  simp only [Bool.cond_decide]
  by_cases c : x = 98
  · rw [if_pos c, if_pos c]
  rw [if_neg c, if_neg c]
  by_cases c : x = 107
  · rw [if_pos c, if_pos c]
  rw [if_neg c, if_neg c]
  by_cases c : x = 109
  · rw [if_pos c, if_pos c]
  rw [if_neg c, if_neg c]
  by_cases c : x = 112
  · rw [if_pos c, if_pos c]
  rw [if_neg c, if_neg c]
  by_cases c : x = 116
  · rw [if_pos c, if_pos c]
  rw [if_neg c, if_neg c]
theorem kd_in (x : Int) : 0 ≤ kdC x ∧ kdC x ≤ 5 ∧ (kdC x ≠ 0 → 98 ≤ x ∧ x ≤ 116) := by
  unfold kdC
  split
  · omega
  · split
    · omega
    · split
      · omega
      · split
        · omega
        · split <;> omega
def soS (B : Int → Int) (s : Int × Int) : Int × Int := if s.1 = 0 then (if kdC (B s.2) = 0 then (1, s.2) else (0, s.2 + 1)) else s
theorem x_sort {Ln : Nat} {n : Int} {tp : Nat → Int} {σ : mmSt} {s : Int × Int} (r : RX n tp σ s) (hn : n ≤ 120) {D : Nat} (hD : 3 ≤ D) : ∃ σ', srun (lyT Ln) (D, 60, 0, [mR 9, mJ], [], σ) = some (σ', kdC (byB n tp s.2)) ∧ RX n tp σ' (soS (byB n tp) s) ∧ frR σ σ' := by
  obtain ⟨d, rfl⟩ := Nat.exists_eq_add_of_le' hD
  have si := r.2.2.2
  unfold soS
  rw [b_Reader_sort, x_next r hn (by omega), Option.bind_some]
  simp only [x_kind (show 1 ≤ d + 2 by omega), Option.bind_some]
  obtain ⟨σ', e1, r1, f1⟩ := x_fail (Ln := Ln) r (show 1 ≤ d + 2 by omega) 1
  by_cases k : kdC (byB n tp s.2) = 0
  · rw [decide_eq_false (show ¬ ¬ kdC (byB n tp s.2) = 0 by omega), cond_false, e1, Option.bind_some]
    have nz : ¬ σ' 9 5 = 0 := by
      rw [r1.2.1]
      by_cases h : s.1 = 0
      · rw [if_pos h]; show ¬ (1 : Int) = 0; omega
      · rw [if_neg h]; exact h
    simp only [decide_eq_true nz, cond_true]
    refine ⟨σ', rfl, ?_, f1⟩
    rw [if_pos k]; exact r1
  · rw [decide_eq_true k, cond_true]
    have h95 := r.2.1
    by_cases h : s.1 = 0
    · have ki := kd_in (byB n tp s.2)
      have pi := by_in (c := byB n tp s.2) rfl (by omega)
      rw [decide_eq_false (show ¬ ¬ σ 9 5 = 0 by omega), if_pos h, if_neg k, r.2.2.1, mw (by omega) (by omega)]
      exact ⟨_, rfl, ⟨TX_fr r.1 (fun b j h => mup_ne (by omega)), (mup_ne (by omega)).trans (r.2.1.trans h), mup_eq _ _ _ _, by show 0 ≤ s.2 + 1; omega, by show s.2 + 1 ≤ n; omega⟩, fun b j h => mup_ne (by omega)⟩
    · rw [decide_eq_true (show ¬ σ 9 5 = 0 by omega), if_neg h]
      exact ⟨σ, rfl, r, frR_rfl _⟩
