/-! county: the model's whole reading -/
theorem ex_ge {B : Int → Int} {c : Int} {s : Int × Int} (h : 0 ≤ s.1) : 0 ≤ (exS B c s).1 := by
  unfold exS
  split
  · split
    · exact Int.le_refl _
    · show (0 : Int) ≤ 1; omega
  · exact h
theorem nu_ge {B : Int → Int} {n lo hi bar : Int} {s : Int × Int} (h : 0 ≤ s.1) : 0 ≤ (nuS B n lo hi bar s).2.1 := by
  unfold nuS
  split
  · split
    · split
      · exact Int.le_refl _
      · show (0 : Int) ≤ 2; omega
    · show (0 : Int) ≤ 1; omega
  · exact h
theorem so_ge {B : Int → Int} {s : Int × Int} (h : 0 ≤ s.1) : 0 ≤ (soS B s).1 := by
  unfold soS
  split
  · split
    · show (0 : Int) ≤ 1; omega
    · exact Int.le_refl _
  · exact h
theorem road_ge {B : Int → Int} {n : Int} {D : Cty} {s : Int × Int} (h : 0 ≤ s.1) : 0 ≤ (roadS B n D s).1.1 := by
  have h0 : 0 ≤ (rd0 B D s).1 := by
    unfold rd0
    split
    · show (0 : Int) ≤ 3; omega
    · exact h
  exact ex_ge (nu_ge (ex_ge (nu_ge (ex_ge (nu_ge (ex_ge h0))))))
theorem quar_ge {B : Int → Int} {n : Int} {D : Cty} {s : Int × Int} (h : 0 ≤ s.1) : 0 ≤ (quarS B n D s).1.1 := by
  have h0 : 0 ≤ (qu0 B D s).1 := by
    unfold qu0
    split
    · show (0 : Int) ≤ 3; omega
    · exact h
  exact ex_ge (nu_ge (ex_ge (nu_ge (ex_ge (nu_ge (so_ge h0))))))
theorem law_ge (B : Int → Int) (n : Int) : 0 ≤ (lawS B n).1.1 := ex_ge (nu_ge (ex_ge (nu_ge (ex_ge (Int.le_refl _)))))
theorem road_no {B : Int → Int} {n : Int} {D : Cty} {s : Int × Int} (h : s.1 = 0) (c : ¬ B s.2 = 114) : roadS B n D s = ((1, s.2), D) := by
  have e0 : rd0 B D s = s := if_neg (fun q => c q.2.1)
  have e1 : exS B 114 s = (1, s.2) := by unfold exS; rw [if_pos h, if_neg c]
  have nz : ¬ ((1 : Int), s.2).1 = 0 := by show ¬ (1 : Int) = 0; omega
  have e : rdE B n (D 0 0) s = (1, s.2) := by
    unfold rdE rdG rdW rdU
    simp only [e1, ex_bad nz, nu_bad nz]
  unfold roadS
  rw [e0, e, if_neg nz]
theorem quar_no {B : Int → Int} {n : Int} {D : Cty} {s : Int × Int} (h : s.1 = 0) (c : kdC (B s.2) = 0) : quarS B n D s = ((1, s.2), D) := by
  have e0 : qu0 B D s = s := if_neg (fun q => q.2.1 c)
  have e1 : soS B s = (1, s.2) := by unfold soS; rw [if_pos h, if_pos c]
  have nz : ¬ ((1 : Int), s.2).1 = 0 := by show ¬ (1 : Int) = 0; omega
  have e : quE B n (D 0 0) s = (1, s.2) := by
    unfold quE quB quZ quA
    simp only [e1, ex_bad nz, nu_bad nz]
  unfold quarS
  rw [e0, e, if_neg nz]
theorem rds_bad {B : Int → Int} {n : Int} {m : Nat} {x : (Int × Int) × Cty} (h : ¬ (x.1.1 = 0 ∧ B x.1.2 = 114)) : rdsL B n m x = x := by
  cases m with
  | zero => rfl
  | succ m => rw [rdsL, if_neg h]
theorem qs_bad {B : Int → Int} {n : Int} {m : Nat} {x : (Int × Int) × Cty} (h : ¬ (x.1.1 = 0 ∧ x.1.2 < n)) : qsL B n m x = x := by
  cases m with
  | zero => rfl
  | succ m => rw [qsL, if_neg h]
theorem rds_in {B : Int → Int} {n : Int} : ∀ (m : Nat) (x : (Int × Int) × Cty), (x.1.1 = 0 → PD x.2 ∧ 1 ≤ x.2 1 0) → (rdsL B n m x).1.1 = 0 → PD (rdsL B n m x).2 ∧ 1 ≤ (rdsL B n m x).2 1 0 := by
  intro m
  induction m with
  | zero => intro x h q; exact h q
  | succ m ih =>
    intro x h q
    by_cases c : x.1.1 = 0 ∧ B x.1.2 = 114
    · rw [rdsL, if_pos c] at q ⊢
      have w := h c.1
      refine ih _ (fun z => ?_) q
      have o := road_ok z w.1
      exact ⟨o.2.2.2.1, by omega⟩
    · rw [rds_bad c] at q ⊢; exact h q
theorem qs_in {B : Int → Int} {n : Int} : ∀ (m : Nat) (x : (Int × Int) × Cty), (x.1.1 = 0 → PD x.2 ∧ 1 ≤ x.2 1 0 ∧ 1 ≤ x.2 2 0) → (qsL B n m x).1.1 = 0 → PD (qsL B n m x).2 ∧ 1 ≤ (qsL B n m x).2 1 0 ∧ 1 ≤ (qsL B n m x).2 2 0 := by
  intro m
  induction m with
  | zero => intro x h q; exact h q
  | succ m ih =>
    intro x h q
    by_cases c : x.1.1 = 0 ∧ x.1.2 < n
    · rw [qsL, if_pos c] at q ⊢
      have w := h c.1
      refine ih _ (fun z => ?_) q
      have o := quar_ok z w.1
      exact ⟨o.2.2.2.1, by omega, by omega⟩
    · rw [qs_bad c] at q ⊢; exact h q
theorem all_in {B : Int → Int} {n : Int} (h : (allS B n).1.1 = 0) : Good (allS B n).2 := by
  have w : PD (allS B n).2 ∧ 1 ≤ (allS B n).2 1 0 ∧ 1 ≤ (allS B n).2 2 0 := by
    refine qs_in 5 _ (fun z => ?_) h
    have rd : ∀ q, PD (rdsL B n 7 (roadS B n (lawS B n).2 (lawS B n).1)).2 ∧ 1 ≤ (rdsL B n 7 (roadS B n (lawS B n).2 (lawS B n).1)).2 1 0 := fun q => rds_in 7 _ (fun y => by
      have lz : (lawS B n).1.1 = 0 := by
        by_cases c : (lawS B n).1.1 = 0
        · exact c
        · rw [road_bad c] at y; exact y
      have o := road_ok y (law_in lz)
      have pl := (law_in lz).1
      exact ⟨o.2.2.2.1, by omega⟩) q
    by_cases c : (rdsL B n 7 (roadS B n (lawS B n).2 (lawS B n).1)).1.1 = 0
    · have o := quar_ok z (rd c).1
      have p := rd c
      have pp := (rd c).1.1
      exact ⟨o.2.2.2.1, by omega, by omega⟩
    · rw [quar_bad c] at z; exact absurd z c
  exact PD_good w.1 w.2.1 w.2.2
def cEnd (Ln dp : Nat) (z1 : Int) (w : (Int × Int) × Cty) (σ : mmSt) (X : Option mmY) : Prop := ∃ σ', X = (if w.1.1 = 0 then srun (lyT Ln) (dp, 177, 102, [mR 92, mI z1, mI 0], [], mup σ' 92 9 0) else some (σ', mwrap (-1000100 - w.1.2))) ∧ σ' 92 11 = 0 ∧ σ' 92 18 = (if w.1.1 = 0 then σ 92 18 else w.1.1) ∧ (w.1.1 = 0 → rep 12 (cM (σ' 97)) w.2) ∧ ∀ b j, ¬ (b = 97 ∨ (b = 92 ∧ 11 ≤ j ∧ j ≤ 18)) → σ' b j = σ b j
theorem cEnd_fr {Ln dp : Nat} {z1 : Int} {w : (Int × Int) × Cty} {σ σ1 : mmSt} {X : Option mmY} (f : frL σ σ1) (h : cEnd Ln dp z1 w σ1 X) : cEnd Ln dp z1 w σ X := by
  obtain ⟨σ', e, a, b, c, d⟩ := h
  exact ⟨σ', e, a, b.trans (by rw [f 92 18 (by omega)]), c, fun x j q => (d x j q).trans (f x j (by omega))⟩
theorem m_failed {Ln : Nat} {n : Int} {tp : Nat → Int} {σ : mmSt} {s : Int × Int} (r : RM n tp σ s) (s0 : 0 ≤ s.1) {D : Nat} (hD : 2 ≤ D) : ∃ σ' v, srun (lyT Ln) (D, 171, 0, [mR 92], [], σ) = some (σ', v) ∧ (let t := if s.1 = 0 ∧ ¬ s.2 = n then ((1 : Int), s.2) else s; v = (if t.1 = 0 then 0 else 1) ∧ σ' 92 11 = 0 ∧ σ' 92 18 = (if t.1 = 0 then σ 92 18 else t.1) ∧ (¬ t.1 = 0 → σ' 92 17 = t.2)) ∧ ∀ b j, ¬ (b = 92 ∧ 11 ≤ j ∧ j ≤ 18) → σ' b j = σ b j := by
  obtain ⟨d, rfl⟩ := Nat.exists_eq_add_of_le' hD
  have r1 := r.2.1
  have fin : ∀ τ t, RM n tp τ t → 0 ≤ t.1 → frK σ τ → ∃ σ' v, (bif decide (((mup τ 92 11 0) 92 16) ≤ 0) then
   (bif decide (((mup (mup τ 92 11 0) 92 18 ((mup τ 92 11 0) 92 18)) 92 16) ≤ 0) then
    some ((mup (mup τ 92 11 0) 92 18 ((mup τ 92 11 0) 92 18)), (0 : Int))
   else
    some ((mup (mup τ 92 11 0) 92 18 ((mup τ 92 11 0) 92 18)), 1))
  else
   (bif decide (((mup (mup τ 92 11 0) 92 18 ((mup τ 92 11 0) 92 16)) 92 16) ≤ 0) then
    some ((mup (mup τ 92 11 0) 92 18 ((mup τ 92 11 0) 92 16)), 0)
   else
    some ((mup (mup τ 92 11 0) 92 18 ((mup τ 92 11 0) 92 16)), 1))) = some (σ', v) ∧ (v = (if t.1 = 0 then 0 else 1) ∧ σ' 92 11 = 0 ∧ σ' 92 18 = (if t.1 = 0 then σ 92 18 else t.1) ∧ (¬ t.1 = 0 → σ' 92 17 = t.2)) ∧ ∀ b j, ¬ (b = 92 ∧ 11 ≤ j ∧ j ≤ 18) → σ' b j = σ b j := by
    intro τ t q t0 f
    have q1 := q.2.1
    simp (discharger := omega) only [mup_ne]
    by_cases c : t.1 = 0
    · rw [decide_eq_true (show τ 92 16 ≤ 0 by omega), if_pos c, if_pos c]
      refine ⟨_, _, rfl, ⟨rfl, ?_, ?_, fun w => absurd c w⟩, fun b j w => ?_⟩
      · simp (discharger := omega) only [mup_ne, mup_eq]
      · rw [mup_eq]; exact f 92 18 (by omega)
      · rw [mup_ne (by omega), mup_ne (by omega)]; exact f b j (by omega)
    · rw [decide_eq_false (show ¬ τ 92 16 ≤ 0 by omega), if_neg c, if_neg c]
      refine ⟨_, _, rfl, ⟨rfl, ?_, ?_, fun w => ?_⟩, fun b j w => ?_⟩
      · simp (discharger := omega) only [mup_ne, mup_eq]
      · rw [mup_eq]; exact q1
      · simp (discharger := omega) only [mup_ne]; exact q.2.2.2.2 c
      · rw [mup_ne (by omega), mup_ne (by omega)]; exact f b j (by omega)
  rw [b_M_failed]
  by_cases c : s.1 = 0
  · by_cases e : s.2 = n
    · have h14 : σ 92 14 = 1 := (r.2.2.2.1 c).2.1.trans (tok_end.mpr e)
      rw [decide_eq_false (show ¬ ¬ σ 92 16 = 0 by omega), cond_false, decide_eq_true h14, cond_true, if_neg (fun q => q.2 e)]
      exact fin σ s r s0 (frK_rfl _)
    · have h14 : ¬ σ 92 14 = 1 := by rw [(r.2.2.2.1 c).2.1]; exact fun q => e (tok_end.mp q)
      obtain ⟨σ1, e1, q1, f1⟩ := m_bad (Ln := Ln) r (show 1 ≤ d + 1 by omega) (show ¬ (1 : Int) = 0 by omega)
      rw [if_pos c] at q1
      rw [decide_eq_false (show ¬ ¬ σ 92 16 = 0 by omega), cond_false, decide_eq_false h14, cond_false, e1, Option.bind_some, if_pos ⟨c, e⟩]
      exact fin σ1 (1, s.2) q1 (show (0 : Int) ≤ 1 by omega) f1
  · rw [decide_eq_true (show ¬ σ 92 16 = 0 by omega), cond_true, if_neg (fun q => c q.1)]
    exact fin σ s r s0 (frK_rfl _)
theorem m_83 {Ln dp : Nat} {n : Int} {tp : Nat → Int} (ht : ∀ j : Nat, (j : Int) < n → 0 ≤ tp j ∧ tp j ≤ 255) (hn : n ≤ 120) (hD : 6 ≤ dp) (z1 z2 : Int) : ∀ (m : Nat) (σ : mmSt) (x : (Int × Int) × Cty), RM n tp σ x.1 → 0 ≤ x.1.1 → (x.1.1 = 0 → rep 12 (cM (σ 97)) x.2 ∧ PD x.2 ∧ 6 ≤ x.2 2 0 + m) → cEnd Ln dp z1 (qsL (byB n tp) n m x) σ (srun (lyT Ln) (dp, 177, 83, [mR 92, mI z1, mI z2], [], σ)) := by
  obtain ⟨d, rfl⟩ := Nat.exists_eq_add_of_le' hD
  intro m
  induction m with
  | zero =>
    intro σ x r x0 h
    have nz : ¬ x.1.1 = 0 := fun q => by
      obtain ⟨_, p, s⟩ := h q
      have := p.1
      omega
    rw [b_M_county_83, m_sort r (by omega), Option.bind_some, if_neg (show ¬ (x.1.1 = 0 ∧ kdC (byB n tp x.1.2) ≠ 0) from fun q => nz q.1)]
    obtain ⟨σ1, v, e1, q1, f1⟩ := m_failed (Ln := Ln) r x0 (show 2 ≤ d + 5 by omega)
    simp only [if_neg (show ¬ (x.1.1 = 0 ∧ ¬ x.1.2 = n) from fun q => nz q.1), if_neg nz] at q1
    obtain ⟨rfl, a, b, c⟩ := q1
    simp only [decide_eq_true (show (0 : Int) = 0 from rfl), cond_true, e1, Option.bind_some, decide_eq_false (show ¬ (1 : Int) = 0 by omega), cond_false]
    refine ⟨σ1, ?_, a, b.trans (if_neg nz).symm, fun q => absurd q nz, fun b j q => f1 b j (by omega)⟩
    rw [c nz]; exact (if_neg nz).symm
  | succ m ih =>
    intro σ x r x0 h
    rw [b_M_county_83, m_sort r (by omega), Option.bind_some]
    by_cases k : x.1.1 = 0 ∧ kdC (byB n tp x.1.2) ≠ 0
    · obtain ⟨hr, pd, sz⟩ := h k.1
      have ki := (kd_in (byB n tp x.1.2)).2.2 k.2
      have pn := by_in (c := byB n tp x.1.2) rfl (by omega)
      obtain ⟨σ1, e1, r1, h1, f1⟩ := m_quar (Ln := Ln) ht hn (show 5 ≤ d + 5 by omega) pd r hr k
      rw [if_pos k, qsL, if_pos ⟨k.1, pn.2⟩]
      simp only [decide_eq_false (show ¬ (1 : Int) = 0 by omega), cond_false, e1, Option.bind_some]
      refine cEnd_fr f1 (ih σ1 (quarS (byB n tp) n x.2 x.1) r1 (quar_ge x0) (fun q => ?_))
      have o := quar_ok q pd
      exact ⟨h1, o.2.2.2.1, by omega⟩
    · obtain ⟨σ1, v, e1, q1, f1⟩ := m_failed (Ln := Ln) r x0 (show 2 ≤ d + 5 by omega)
      rw [if_neg k]
      simp only [decide_eq_true (show (0 : Int) = 0 from rfl), cond_true, e1, Option.bind_some]
      have si := r.2.2.1
      by_cases c : x.1.1 = 0 ∧ ¬ x.1.2 = n
      · have k0 : kdC (byB n tp x.1.2) = 0 := by
          by_cases w : kdC (byB n tp x.1.2) = 0
          · exact w
          · exact absurd ⟨c.1, w⟩ k
        rw [qsL, if_pos ⟨c.1, by omega⟩, quar_no c.1 k0, qs_bad (fun q => absurd q.1 (show ¬ (1 : Int) = 0 by omega))]
        simp only [if_pos c, if_neg (show ¬ (1 : Int) = 0 by omega)] at q1
        obtain ⟨rfl, a, b, c'⟩ := q1
        simp only [decide_eq_false (show ¬ (1 : Int) = 0 by omega), cond_false]
        refine ⟨σ1, ?_, a, b.trans (if_neg (show ¬ (1 : Int) = 0 by omega)).symm, fun q => absurd q (show ¬ (1 : Int) = 0 by omega), fun b j q => f1 b j (by omega)⟩
        rw [c' (by omega)]; exact (if_neg (show ¬ (1 : Int) = 0 by omega)).symm
      · simp only [if_neg c] at q1
        rw [qs_bad (fun q => c ⟨q.1, by omega⟩)]
        by_cases z : x.1.1 = 0
        · simp only [if_pos z] at q1
          obtain ⟨rfl, a, b, c'⟩ := q1
          simp only [decide_eq_true (show (0 : Int) = 0 from rfl), cond_true]
          refine ⟨σ1, (if_pos z).symm, a, b.trans (if_pos z).symm, fun q => ?_, fun b j q => f1 b j (by omega)⟩
          rw [show σ1 97 = σ 97 from funext fun j => f1 97 j (by omega)]; exact (h z).1
        · simp only [if_neg z] at q1
          obtain ⟨rfl, a, b, c'⟩ := q1
          simp only [decide_eq_false (show ¬ (1 : Int) = 0 by omega), cond_false]
          refine ⟨σ1, ?_, a, b.trans (if_neg z).symm, fun q => absurd q z, fun b j q => f1 b j (by omega)⟩
          rw [c' z]; exact (if_neg z).symm
theorem m_70 {Ln dp : Nat} {n : Int} {tp : Nat → Int} (ht : ∀ j : Nat, (j : Int) < n → 0 ≤ tp j ∧ tp j ≤ 255) (hn : n ≤ 120) (hD : 6 ≤ dp) (z1 z2 : Int) : ∀ (m : Nat) (σ : mmSt) (x : (Int × Int) × Cty), RM n tp σ x.1 → 0 ≤ x.1.1 → (x.1.1 = 0 → rep 12 (cM (σ 97)) x.2 ∧ PD x.2 ∧ 8 ≤ x.2 1 0 + m) → cEnd Ln dp z1 (qsL (byB n tp) n 5 (quarS (byB n tp) n (rdsL (byB n tp) n m x).2 (rdsL (byB n tp) n m x).1)) σ (srun (lyT Ln) (dp, 177, 70, [mR 92, mI z1, mI z2], [], σ)) := by
  obtain ⟨d, rfl⟩ := Nat.exists_eq_add_of_le' hD
  have stop : ∀ (m : Nat) (σ : mmSt) (x : (Int × Int) × Cty), RM n tp σ x.1 → 0 ≤ x.1.1 → (x.1.1 = 0 → rep 12 (cM (σ 97)) x.2 ∧ PD x.2) → ¬ (x.1.1 = 0 ∧ byB n tp x.1.2 = 114) → cEnd Ln (d + 6) z1 (qsL (byB n tp) n 5 (quarS (byB n tp) n (rdsL (byB n tp) n m x).2 (rdsL (byB n tp) n m x).1)) σ (srun (lyT Ln) (d + 6, 177, 70, [mR 92, mI z1, mI z2], [], σ)) := by
    intro m σ x r x0 h c
    rw [b_M_county_70, m_ltr r (by omega) (by omega) (by omega), Option.bind_some, if_neg c, rds_bad c]
    simp only [decide_eq_true (show (0 : Int) = 0 from rfl), cond_true, m_sort r (show 2 ≤ d + 5 by omega), Option.bind_some]
    by_cases k : x.1.1 = 0 ∧ kdC (byB n tp x.1.2) ≠ 0
    · obtain ⟨hr, pd⟩ := h k.1
      have ki := (kd_in (byB n tp x.1.2)).2.2 k.2
      have pn := by_in (c := byB n tp x.1.2) rfl (by omega)
      have w := pd.1
      rw [if_pos k, decide_eq_true (show ¬ (1 : Int) = 0 by omega), cond_true]
      have e : qsL (byB n tp) n 5 (quarS (byB n tp) n x.2 x.1) = qsL (byB n tp) n 6 x := by
        rw [qsL.eq_def (byB n tp) n 6]
        exact (if_pos ⟨k.1, pn.2⟩).symm
      rw [e]
      exact m_83 ht hn (by omega) z1 z2 6 σ x r x0 (fun _ => ⟨hr, pd, by omega⟩)
    · obtain ⟨σ1, e1, q1, f1⟩ := m_bad (Ln := Ln) r (show 1 ≤ d + 5 by omega) (show ¬ (1 : Int) = 0 by omega)
      rw [if_neg k, decide_eq_false (show ¬ ¬ (0 : Int) = 0 by omega), cond_false, e1, Option.bind_some]
      by_cases z : x.1.1 = 0
      · have k0 : kdC (byB n tp x.1.2) = 0 := by
          by_cases w : kdC (byB n tp x.1.2) = 0
          · exact w
          · exact absurd ⟨z, w⟩ k
        rw [if_pos z] at q1
        rw [quar_no z k0]
        exact cEnd_fr (frK_L f1) (m_83 ht hn (by omega) z1 z2 5 σ1 ((1, x.1.2), x.2) q1 (show (0 : Int) ≤ 1 by omega) (fun q => absurd q (show ¬ (1 : Int) = 0 by omega)))
      · rw [if_neg z] at q1
        rw [quar_bad z]
        exact cEnd_fr (frK_L f1) (m_83 ht hn (by omega) z1 z2 5 σ1 (x.1, x.2) q1 x0 (fun q => absurd q z))
  intro m
  induction m with
  | zero =>
    intro σ x r x0 h
    refine stop 0 σ x r x0 (fun q => ⟨(h q).1, (h q).2.1⟩) (fun q => ?_)
    obtain ⟨_, p, s⟩ := h q.1
    have := p.1
    omega
  | succ m ih =>
    intro σ x r x0 h
    by_cases c : x.1.1 = 0 ∧ byB n tp x.1.2 = 114
    · obtain ⟨hr, pd, sz⟩ := h c.1
      obtain ⟨σ1, e1, r1, h1, f1⟩ := m_road (Ln := Ln) ht hn (show 5 ≤ d + 5 by omega) pd r hr c
      rw [b_M_county_70, m_ltr r (by omega) (by omega) (by omega), Option.bind_some, if_pos c, rdsL, if_pos c]
      simp only [decide_eq_false (show ¬ (1 : Int) = 0 by omega), cond_false, e1, Option.bind_some]
      refine cEnd_fr f1 (ih σ1 (roadS (byB n tp) n x.2 x.1) r1 (road_ge x0) (fun q => ?_))
      have o := road_ok q pd
      exact ⟨h1, o.2.2.2.1, by omega⟩
    · exact stop (m + 1) σ x r x0 (fun q => ⟨(h q).1, (h q).2.1⟩) c
