/-! ask -/
def trX (σ : mmSt) (L : List Int) : Prop := σ 69 1 = (L.length : Int) ∧ ∀ j : Nat, j < L.length → σ 70 j = L.getD j 0
def trM (σ : mmSt) (L : List Int) : Prop := σ 92 26 = (L.length : Int) ∧ ∀ j : Nat, j < L.length → σ 104 j = L.getD j 0
def AX (σ : mmSt) (C : Cty) (L : List Int) : Prop := trX σ L ∧ rep 12 (cX σ 48) C ∧ ∀ j, σ 1 j = ro_tab 1 j ∧ σ 2 j = ro_tab 2 j ∧ σ 3 j = ro_tab 3 j
def AM (σ : mmSt) (C : Cty) (L : List Int) : Prop := trM σ L ∧ rep 12 (cM (σ 96)) C
def frA (σ σ' : mmSt) : Prop := ∀ b j, ¬ (b = 70 ∨ (b = 69 ∧ j = 1)) → σ' b j = σ b j
def frB (σ σ' : mmSt) : Prop := ∀ b j, ¬ (b = 104 ∨ (b = 92 ∧ j = 26)) → σ' b j = σ b j
theorem frA_trans {a b c : mmSt} (h : frA a b) (k : frA b c) : frA a c := fun x j q => (k x j q).trans (h x j q)
theorem frB_trans {a b c : mmSt} (h : frB a b) (k : frB b c) : frB a c := fun x j q => (k x j q).trans (h x j q)
theorem getD_app1 (L : List Int) (b : Int) (j : Nat) : (L ++ [b]).getD j 0 = if j = L.length then b else L.getD j 0 := by
  by_cases c : j < L.length
  · rw [if_neg (by omega)]
    simp [List.getD, List.getElem?_append_left c]
  · by_cases c2 : j = L.length
    · rw [if_pos c2, c2]; simp [List.getD]
    · rw [if_neg c2]
      simp [List.getD, List.getElem?_eq_none (show (L ++ [b]).length ≤ j by simp; omega), List.getElem?_eq_none (show L.length ≤ j by omega)]
theorem x_leave {Ln : Nat} {σ : mmSt} {C : Cty} {L : List Int} (a : AX σ C L) (hl : L.length < 16) {D : Nat} (hD : 1 ≤ D) (b : Int) : ∃ σ', srun (lyT Ln) (D, 12, 0, [mR 69, mI b], [], σ) = some (σ', 0) ∧ AX σ' C (L ++ [b]) ∧ frA σ σ' := by
  obtain ⟨d, rfl⟩ := Nat.exists_eq_add_of_le' hD
  obtain ⟨⟨a1, a2⟩, a3, a4⟩ := a
  rw [b_Asker_leave, mup_ne (by omega), a1, decide_eq_false (show ¬ 16 ≤ (L.length : Int) by omega), cond_false, minb_t (by omega) (by omega), cond_true, mw (by omega) (by omega)]
  refine ⟨_, rfl, ⟨⟨?_, fun j hj => ?_⟩, rep_X_of (fun c l h => by rw [mup_ne (by omega), mup_ne (by omega)]) a3, fun j => ?_⟩, fun c l h => by rw [mup_ne (by omega), mup_ne (by omega)]⟩
  · rw [mup_eq]; simp
  · rw [mup_ne (by omega), mup_ap, getD_app1]
    have hj' : j < L.length + 1 := by simpa using hj
    by_cases c : j = L.length
    · rw [if_pos c, if_pos (by omega)]
    · rw [if_neg c, if_neg (by omega)]; exact a2 j (by omega)
  · rw [mup_ne (by omega), mup_ne (by omega), mup_ne (by omega), mup_ne (by omega), mup_ne (by omega), mup_ne (by omega)]; exact a4 j
theorem m_began {Ln : Nat} {σ : mmSt} {C : Cty} {L : List Int} (a : AM σ C L) (hl : L.length < 16) {D : Nat} (hD : 1 ≤ D) (b : Int) : ∃ σ', srun (lyT Ln) (D, 233, 0, [mR 92, mI b], [], σ) = some (σ', 0) ∧ AM σ' C (L ++ [b]) ∧ frB σ σ' := by
  obtain ⟨d, rfl⟩ := Nat.exists_eq_add_of_le' hD
  obtain ⟨⟨a1, a2⟩, a3⟩ := a
  rw [b_M_began, mup_ne (by omega), a1, decide_eq_false (show ¬ 16 ≤ (L.length : Int) by omega), cond_false, minb_t (by omega) (by omega), cond_true, mw (by omega) (by omega)]
  refine ⟨_, rfl, ⟨⟨?_, fun j hj => ?_⟩, rep_M_of (fun j => by rw [mup_ne (by omega), mup_ne (by omega)]) a3⟩, fun c l h => by rw [mup_ne (by omega), mup_ne (by omega)]⟩
  · rw [mup_eq]; simp
  · rw [mup_ne (by omega), mup_ap, getD_app1]
    have hj' : j < L.length + 1 := by simpa using hj
    by_cases c : j = L.length
    · rw [if_pos c, if_pos (by omega)]
    · rw [if_neg c, if_neg (by omega)]; exact a2 j (by omega)
def gvX (Ln D : Nat) (body q dp : Int) (σ : mmSt) (C : Cty) (L : List Int) (v : Int) (T : List Int) : Prop := ∃ σ', srun (lyT Ln) (D, 13, 0, [mR 69, mR 48, mI body, mI q, mI dp, mJ], [], σ) = some (σ', v) ∧ AX σ' C (L ++ T) ∧ frA σ σ'
def bgX (Ln D : Nat) (w q dp : Int) (σ : mmSt) (C : Cty) (L : List Int) (v : Int) (T : List Int) : Prop := ∃ σ', srun (lyT Ln) (D, 10, 0, [mR 69, mR 48, mI w, mI q, mI dp], [], σ) = some (σ', v) ∧ AX σ' C (L ++ T) ∧ frA σ σ'
theorem bodyA {Ln : Nat} {σ : mmSt} {C : Cty} {L : List Int} (a : AX σ C L) {D : Nat} (hD : 1 ≤ D) {w k : Int} (hw : w = 0 ∨ w = 1) (hk : k = 1 ∨ k = 2 ∨ k = 3 ∨ k = 4 ∨ k = 5) : srun (lyT Ln) (D, 11, 0, [mI w, mI k, mJ, mJ, mJ], [], σ) = some (σ, if w = 0 then (if k = 1 then 11 else if k = 2 then 12 else if k = 3 then 11 else if k = 4 then 13 else 14) else (if k = 1 then 21 else if k = 2 then 24 else if k = 3 then 22 else 23)) := by
  obtain ⟨d, rfl⟩ := Nat.exists_eq_add_of_le' hD
  have t := a.2.2
  have s1 : ∀ (mb : Nat) (hm : mb = 2 ∨ mb = 3) (z i : Int), 0 ≤ z → z < 6 → 0 ≤ i → i < 5 → ¬ ro_tab mb (Int.toNat z) = 0 → srun (lyT Ln) (d + 1, 11, 10, [mI w, mI k, mR mb, mI z, mI i], [], σ) = some (σ, ro_tab mb (Int.toNat z)) := by
    intro mb hm z i z0 z1 i0 i1 h
    have e : σ mb (Int.toNat z) = ro_tab mb (Int.toNat z) := by
      rcases hm with rfl | rfl
      · exact (t _).2.1
      · exact (t _).2.2
    rw [b_Asker_bodyFor_10 _ _ _ _ _ _ _ _ hm, decide_eq_false (show ¬ 5 ≤ i by omega), cond_false, minb_t z0 (by omega), cond_true, e, decide_eq_true h]; rfl
  have s2 : ∀ (mb : Nat) (hm : mb = 2 ∨ mb = 3) (z i : Int), 0 ≤ z → z < 6 → 0 ≤ i → i < 5 → ro_tab mb (Int.toNat z) = 0 → srun (lyT Ln) (d + 1, 11, 10, [mI w, mI k, mR mb, mI z, mI i], [], σ) = srun (lyT Ln) (d + 1, 11, 10, [mI w, mI k, mR mb, mI (ro_tab 1 (Int.toNat z)), mI (i + 1)], [], σ) := by
    intro mb hm z i z0 z1 i0 i1 h
    have e : σ mb (Int.toNat z) = ro_tab mb (Int.toNat z) := by
      rcases hm with rfl | rfl
      · exact (t _).2.1
      · exact (t _).2.2
    rw [b_Asker_bodyFor_10 _ _ _ _ _ _ _ _ hm, decide_eq_false (show ¬ 5 ≤ i by omega), cond_false, minb_t z0 (by omega), cond_true, e, decide_eq_false (fun q => q h), (t _).1, mw (by omega) (by omega)]; rfl
  rw [b_Asker_bodyFor]
  rcases hw with rfl | rfl
  · show srun (lyT Ln) (d + 1, 11, 10, [mI 0, mI k, mR 2, mI k, mI 0], [], σ) = _
    rcases hk with rfl | rfl | rfl | rfl | rfl
    · rw [s1 2 (.inl rfl) 1 0 (by omega) (by omega) (by omega) (by omega) (by decide)]; rfl
    · rw [s1 2 (.inl rfl) 2 0 (by omega) (by omega) (by omega) (by omega) (by decide)]; rfl
    · rw [s2 2 (.inl rfl) 3 0 (by omega) (by omega) (by omega) (by omega) (by decide)]
      show srun (lyT Ln) (d + 1, 11, 10, [mI 0, mI 3, mR 2, mI 1, mI 1], [], σ) = _
      rw [s1 2 (.inl rfl) 1 1 (by omega) (by omega) (by omega) (by omega) (by decide)]; rfl
    · rw [s1 2 (.inl rfl) 4 0 (by omega) (by omega) (by omega) (by omega) (by decide)]; rfl
    · rw [s1 2 (.inl rfl) 5 0 (by omega) (by omega) (by omega) (by omega) (by decide)]; rfl
  · show srun (lyT Ln) (d + 1, 11, 10, [mI 1, mI k, mR 3, mI k, mI 0], [], σ) = _
    rcases hk with rfl | rfl | rfl | rfl | rfl
    · rw [s1 3 (.inr rfl) 1 0 (by omega) (by omega) (by omega) (by omega) (by decide)]; rfl
    · rw [s1 3 (.inr rfl) 2 0 (by omega) (by omega) (by omega) (by omega) (by decide)]; rfl
    · rw [s1 3 (.inr rfl) 3 0 (by omega) (by omega) (by omega) (by omega) (by decide)]; rfl
    · rw [s1 3 (.inr rfl) 4 0 (by omega) (by omega) (by omega) (by omega) (by decide)]; rfl
    · rw [s2 3 (.inr rfl) 5 0 (by omega) (by omega) (by omega) (by omega) (by decide)]
      show srun (lyT Ln) (d + 1, 11, 10, [mI 1, mI 5, mR 3, mI 4, mI 1], [], σ) = _
      rw [s1 3 (.inr rfl) 4 1 (by omega) (by omega) (by omega) (by omega) (by decide)]; rfl
theorem bg_of {Ln D : Nat} {w q dp body v : Int} {σ : mmSt} {C : Cty} {L T : List Int} (a : AX σ C L) (wf : WF 12 C) (q0 : 0 ≤ q) (q1 : q < C 2 0) (hw : w = 0 ∨ w = 1) (hb : body = if w = 0 then (if C 8 q = 1 then 11 else if C 8 q = 2 then 12 else if C 8 q = 3 then 11 else if C 8 q = 4 then 13 else 14) else (if C 8 q = 1 then 21 else if C 8 q = 2 then 24 else if C 8 q = 3 then 22 else 23)) (g : gvX Ln D body q dp σ C L v T) (hD : 1 ≤ D) : bgX Ln (D + 1) w q dp σ C L v T := by
  obtain ⟨σ', e, r⟩ := g
  have w8 := wf.2.2.2 q q0 q1
  have w0 := wf.1
  refine ⟨σ', ?_, r⟩
  rw [b_Asker_begin, minb_t q0 (by omega), cond_true, show σ 53 (Int.toNat q) = C 8 q from x8 a.2.1 q q0 q1, bodyA a hD hw (show C 8 q = 1 ∨ C 8 q = 2 ∨ C 8 q = 3 ∨ C 8 q = 4 ∨ C 8 q = 5 by omega), ← hb, Option.bind_some]
  show Option.bind (srun (lyT Ln) (D, 13, 0, [mR 69, mR 48, mI body, mI q, mI dp, mJ], [], σ)) _ = _
  rw [e]; rfl
theorem g10 {Ln D : Nat} {q dp : Int} {σ : mmSt} {C : Cty} {L : List Int} (a : AX σ C L) (wf : WF 12 C) (q0 : 0 ≤ q) (q1 : q < C 2 0) (hd : dp ≤ 20) (hl : L.length + 1 ≤ 16) (hD : 2 ≤ D) : gvX Ln D 10 q dp σ C L (C 10 q) [10] := by
  obtain ⟨d, rfl⟩ := Nat.exists_eq_add_of_le' hD
  have w0 := wf.1
  obtain ⟨σ1, e1, a1, f1⟩ := x_leave (Ln := Ln) a (by omega) (show 1 ≤ d + 1 by omega) 10
  refine ⟨σ1, ?_, a1, f1⟩
  rw [b_Asker_give, decide_eq_true hd, cond_true, e1, Option.bind_some]
  show (bif minb q 5 then some (σ1, σ1 55 (Int.toNat q)) else none) = _
  rw [minb_t q0 (by omega), cond_true, show σ1 55 (Int.toNat q) = C 10 q from x10 a1.2.1 q q0 q1]
theorem g20 {Ln D : Nat} {q dp : Int} {σ : mmSt} {C : Cty} {L : List Int} (a : AX σ C L) (hd : dp ≤ 20) (hl : L.length + 1 ≤ 16) (hD : 2 ≤ D) : gvX Ln D 20 q dp σ C L q [20] := by
  obtain ⟨d, rfl⟩ := Nat.exists_eq_add_of_le' hD
  obtain ⟨σ1, e1, a1, f1⟩ := x_leave (Ln := Ln) a (by omega) (show 1 ≤ d + 1 by omega) 20
  refine ⟨σ1, ?_, a1, f1⟩
  rw [b_Asker_give, decide_eq_true hd, cond_true, e1, Option.bind_some]
  rfl
/-- a body with one inner body -/
theorem g_un {Ln D : Nat} {q dp b b2 v v2 : Int} {σ : mmSt} {C : Cty} {L T : List Int} (a : AX σ C L) (d0 : 0 ≤ dp) (hd : dp ≤ 20) (hl : L.length + 1 ≤ 16) (hD : 1 ≤ D) (g : ∀ σ1, AX σ1 C (L ++ [b]) → gvX Ln D b2 q (dp + 1) σ1 C (L ++ [b]) v2 T) (hk : ∀ σ1 σ2, AX σ2 C (L ++ [b] ++ T) → srun (lyT Ln) (D, 13, 0, [mR 69, mR 48, mI b2, mI q, mI (dp + 1), mJ], [], σ1) = some (σ2, v2) → srun (lyT Ln) (D, 12, 0, [mR 69, mI b], [], σ) = some (σ1, 0) → srun (lyT Ln) (D + 1, 13, 0, [mR 69, mR 48, mI b, mI q, mI dp, mJ], [], σ) = some (σ2, v)) : gvX Ln (D + 1) b q dp σ C L v (b :: T) := by
  obtain ⟨σ1, e1, a1, f1⟩ := x_leave (Ln := Ln) a (by omega) hD b
  obtain ⟨σ2, e2, a2, f2⟩ := g σ1 a1
  exact ⟨σ2, hk σ1 σ2 a2 e2 e1, by rw [show L ++ b :: T = L ++ [b] ++ T by simp]; exact a2, frA_trans f1 f2⟩
theorem g21 {Ln D : Nat} {q dp : Int} {σ : mmSt} {C : Cty} {L : List Int} (a : AX σ C L) (wf : WF 12 C) (q0 : 0 ≤ q) (q1 : q < C 2 0) (d0 : 0 ≤ dp) (hd : dp ≤ 19) (hl : L.length + 2 ≤ 16) (hD : 2 ≤ D) : gvX Ln (D + 1) 21 q dp σ C L (q + C 9 q) [21, 20] := by
  have w0 := wf.1
  have w9 := wf.2.2.2 q q0 q1
  refine g_un a d0 (by omega) (by omega) (by omega) (fun σ1 a1 => g20 a1 (by omega) (by simp; omega) hD) (fun σ1 σ2 a2 e2 e1 => ?_)
  rw [b_Asker_give, decide_eq_true (by omega), cond_true, e1, Option.bind_some]
  show Option.bind (srun (lyT Ln) (D, 13, 0, [mR 69, mR 48, mI 20, mI q, mI (mwrap (dp + 1)), mJ], [], σ1)) _ = _
  rw [mw (by omega) (by omega), e2, Option.bind_some, minb_t q0 (by omega), cond_true]
  show some (σ2, mwrap (q + σ2 54 (Int.toNat q))) = _
  rw [show σ2 54 (Int.toNat q) = C 9 q from x9 a2.2.1 q q0 q1, mw (by omega) (by omega)]
theorem g13 {Ln D : Nat} {q dp : Int} {σ : mmSt} {C : Cty} {L : List Int} (a : AX σ C L) (wf : WF 12 C) (q0 : 0 ≤ q) (q1 : q < C 2 0) (d0 : 0 ≤ dp) (hd : dp ≤ 19) (hl : L.length + 2 ≤ 16) (hD : 2 ≤ D) : gvX Ln (D + 1) 13 q dp σ C L (C 10 q - 100) [13, 10] := by
  have w9 := wf.2.2.2 q q0 q1
  refine g_un a d0 (by omega) (by omega) (by omega) (fun σ1 a1 => g10 a1 wf q0 q1 (by omega) (by simp; omega) hD) (fun σ1 σ2 a2 e2 e1 => ?_)
  rw [b_Asker_give, decide_eq_true (by omega), cond_true, e1, Option.bind_some]
  show Option.bind (srun (lyT Ln) (D, 13, 0, [mR 69, mR 48, mI 10, mI q, mI (mwrap (dp + 1)), mJ], [], σ1)) _ = _
  rw [mw (by omega) (by omega), e2, Option.bind_some]
  show some (σ2, mwrap (C 10 q - 100)) = _
  rw [mw (by omega) (by omega)]
theorem g14 {Ln D : Nat} {q dp : Int} {σ : mmSt} {C : Cty} {L : List Int} (a : AX σ C L) (wf : WF 12 C) (q0 : 0 ≤ q) (q1 : q < C 2 0) (d0 : 0 ≤ dp) (hd : dp ≤ 18) (hl : L.length + 3 ≤ 16) (hD : 2 ≤ D) : gvX Ln (D + 2) 14 q dp σ C L (2 * (C 10 q - 100)) [14, 13, 10] := by
  have w9 := wf.2.2.2 q q0 q1
  refine g_un a d0 (by omega) (by omega) (by omega) (fun σ1 a1 => g13 a1 wf q0 q1 (by omega) (by omega) (by simp; omega) hD) (fun σ1 σ2 a2 e2 e1 => ?_)
  rw [b_Asker_give, decide_eq_true (by omega), cond_true, e1, Option.bind_some]
  show Option.bind (srun (lyT Ln) (D + 1, 13, 0, [mR 69, mR 48, mI 13, mI q, mI (mwrap (dp + 1)), mJ], [], σ1)) _ = _
  rw [mw (by omega) (by omega), e2, Option.bind_some]
  show some (σ2, mwrap (2 * (C 10 q - 100))) = _
  rw [mw (by omega) (by omega)]
theorem g22 {Ln D : Nat} {q dp : Int} {σ : mmSt} {C : Cty} {L : List Int} (a : AX σ C L) (wf : WF 12 C) (q0 : 0 ≤ q) (q1 : q < C 2 0) (d0 : 0 ≤ dp) (hd : dp ≤ 18) (hl : L.length + 3 ≤ 16) (hD : 2 ≤ D) : gvX Ln (D + 2) 22 q dp σ C L (q + C 9 q - 1000) [22, 21, 20] := by
  have w0 := wf.1
  have w9 := wf.2.2.2 q q0 q1
  refine g_un a d0 (by omega) (by omega) (by omega) (fun σ1 a1 => g21 a1 wf q0 q1 (by omega) (by omega) (by simp; omega) hD) (fun σ1 σ2 a2 e2 e1 => ?_)
  rw [b_Asker_give, decide_eq_true (by omega), cond_true, e1, Option.bind_some]
  show Option.bind (srun (lyT Ln) (D + 1, 13, 0, [mR 69, mR 48, mI 21, mI q, mI (mwrap (dp + 1)), mJ], [], σ1)) _ = _
  rw [mw (by omega) (by omega), e2, Option.bind_some]
  show some (σ2, mwrap (q + C 9 q - 1000)) = _
  rw [mw (by omega) (by omega)]
theorem g24 {Ln D : Nat} {q dp : Int} {σ : mmSt} {C : Cty} {L : List Int} (a : AX σ C L) (wf : WF 12 C) (q0 : 0 ≤ q) (q1 : q < C 2 0) (d0 : 0 ≤ dp) (hd : dp ≤ 18) (hl : L.length + 3 ≤ 16) (hD : 2 ≤ D) : gvX Ln (D + 2) 24 q dp σ C L (2 * (q + C 9 q)) [24, 21, 20] := by
  have w0 := wf.1
  have w9 := wf.2.2.2 q q0 q1
  refine g_un a d0 (by omega) (by omega) (by omega) (fun σ1 a1 => g21 a1 wf q0 q1 (by omega) (by omega) (by simp; omega) hD) (fun σ1 σ2 a2 e2 e1 => ?_)
  rw [b_Asker_give, decide_eq_true (by omega), cond_true, e1, Option.bind_some]
  show Option.bind (srun (lyT Ln) (D + 1, 13, 0, [mR 69, mR 48, mI 21, mI q, mI (mwrap (dp + 1)), mJ], [], σ1)) _ = _
  rw [mw (by omega) (by omega), e2, Option.bind_some]
  show some (σ2, mwrap (2 * (q + C 9 q))) = _
  rw [mw (by omega) (by omega)]
def bullV (C : Cty) (q : Int) : Int := if C 8 q = 5 then 2 * (C 10 q - 100) else C 10 q - 100
def bullT (C : Cty) (q : Int) : List Int := if C 8 q = 5 then [14, 13, 10] else [13, 10]
def lowV (C : Cty) (q : Int) : Int := if C 8 q = 1 then q + C 9 q else if C 8 q = 3 then q + C 9 q - 1000 else 2 * (q + C 9 q)
def lowT (C : Cty) (q : Int) : List Int := if C 8 q = 1 then [21, 20] else if C 8 q = 3 then [22, 21, 20] else [24, 21, 20]
def markV (C : Cty) (q : Int) : Int := if 4 ≤ C 8 q then q - bullV C q else lowV C q
def markT (C : Cty) (q : Int) : List Int := if 4 ≤ C 8 q then [23, 20] ++ bullT C q else lowT C q
def sizeV (C : Cty) (q : Int) : Int := if 4 ≤ C 8 q then bullV C q else if C 8 q = 2 then -(C 10 q + lowV C q) else C 10 q + lowV C q
def sizeT (C : Cty) (q : Int) : List Int := if 4 ≤ C 8 q then bullT C q else if C 8 q = 2 then [12, 11, 10] ++ lowT C q else [11, 10] ++ lowT C q
theorem bg_bull {Ln D : Nat} {q dp : Int} {σ : mmSt} {C : Cty} {L : List Int} (a : AX σ C L) (wf : WF 12 C) (q0 : 0 ≤ q) (q1 : q < C 2 0) (h4 : 4 ≤ C 8 q) (d0 : 0 ≤ dp) (hd : dp ≤ 18) (hl : L.length + 3 ≤ 16) (hD : 4 ≤ D) : bgX Ln (D + 1) 0 q dp σ C L (bullV C q) (bullT C q) := by
  have w8 := wf.2.2.2 q q0 q1
  obtain ⟨d, rfl⟩ := Nat.exists_eq_add_of_le' hD
  unfold bullV bullT
  by_cases c : C 8 q = 5
  · rw [if_pos c, if_pos c]
    exact bg_of a wf q0 q1 (.inl rfl) (by rw [c]; rfl) (g14 (D := d + 2) a wf q0 q1 d0 hd (by omega) (by omega)) (by omega)
  · rw [if_neg c, if_neg c]
    exact bg_of a wf q0 q1 (.inl rfl) (by rw [show C 8 q = 4 by omega]; rfl) (g13 (D := d + 3) a wf q0 q1 d0 (by omega) (by omega) (by omega)) (by omega)
theorem bg_low {Ln D : Nat} {q dp : Int} {σ : mmSt} {C : Cty} {L : List Int} (a : AX σ C L) (wf : WF 12 C) (q0 : 0 ≤ q) (q1 : q < C 2 0) (h4 : ¬ 4 ≤ C 8 q) (d0 : 0 ≤ dp) (hd : dp ≤ 18) (hl : L.length + 3 ≤ 16) (hD : 4 ≤ D) : bgX Ln (D + 1) 1 q dp σ C L (lowV C q) (lowT C q) := by
  have w8 := wf.2.2.2 q q0 q1
  obtain ⟨d, rfl⟩ := Nat.exists_eq_add_of_le' hD
  unfold lowV lowT
  by_cases c : C 8 q = 1
  · rw [if_pos c, if_pos c]
    exact bg_of a wf q0 q1 (.inr rfl) (by rw [c]; rfl) (g21 (D := d + 3) a wf q0 q1 d0 (by omega) (by omega) (by omega)) (by omega)
  · rw [if_neg c, if_neg c]
    by_cases c3 : C 8 q = 3
    · rw [if_pos c3, if_pos c3]
      exact bg_of a wf q0 q1 (.inr rfl) (by rw [c3]; rfl) (g22 (D := d + 2) a wf q0 q1 d0 hd (by omega) (by omega)) (by omega)
    · rw [if_neg c3, if_neg c3]
      exact bg_of a wf q0 q1 (.inr rfl) (by rw [show C 8 q = 2 by omega]; rfl) (g24 (D := d + 2) a wf q0 q1 d0 hd (by omega) (by omega)) (by omega)
theorem low_in {C : Cty} {q : Int} (wf : WF 12 C) (q0 : 0 ≤ q) (q1 : q < C 2 0) : -2000 ≤ lowV C q ∧ lowV C q ≤ 2000 := by
  have w0 := wf.1
  have w9 := wf.2.2.2 q q0 q1
  unfold lowV
  split
  · omega
  · split <;> omega
theorem bull_in {C : Cty} {q : Int} (wf : WF 12 C) (q0 : 0 ≤ q) (q1 : q < C 2 0) : -2000 ≤ bullV C q ∧ bullV C q ≤ 2000 := by
  have w9 := wf.2.2.2 q q0 q1
  unfold bullV
  split <;> omega
theorem g11 {Ln D : Nat} {q dp : Int} {σ : mmSt} {C : Cty} {L : List Int} (a : AX σ C L) (wf : WF 12 C) (q0 : 0 ≤ q) (q1 : q < C 2 0) (h4 : ¬ 4 ≤ C 8 q) (d0 : 0 ≤ dp) (hd : dp ≤ 10) (hl : L.length + 5 ≤ 16) (hD : 5 ≤ D) : gvX Ln (D + 1) 11 q dp σ C L (C 10 q + lowV C q) ([11, 10] ++ lowT C q) := by
  have w9 := wf.2.2.2 q q0 q1
  have li := low_in wf q0 q1
  obtain ⟨d, rfl⟩ := Nat.exists_eq_add_of_le' hD
  obtain ⟨σ1, e1, a1, f1⟩ := x_leave (Ln := Ln) a (by omega) (show 1 ≤ d + 5 by omega) 11
  obtain ⟨σ2, e2, a2, f2⟩ := g10 (Ln := Ln) (dp := dp + 1) a1 wf q0 q1 (by omega) (by simp; omega) (show 2 ≤ d + 5 by omega)
  obtain ⟨σ3, e3, a3, f3⟩ := bg_low (Ln := Ln) (dp := dp + 1) (D := d + 4) a2 wf q0 q1 h4 (by omega) (by omega) (by simp; omega) (by omega)
  refine ⟨σ3, ?_, by rw [show L ++ ([11, 10] ++ lowT C q) = L ++ [11] ++ [10] ++ lowT C q by simp]; exact a3, frA_trans f1 (frA_trans f2 f3)⟩
  rw [b_Asker_give, decide_eq_true (by omega), cond_true, e1, Option.bind_some]
  show Option.bind (srun (lyT Ln) (d + 5, 13, 0, [mR 69, mR 48, mI 10, mI q, mI (mwrap (dp + 1)), mJ], [], σ1)) _ = _
  rw [mw (by omega) (by omega), e2, Option.bind_some]
  show Option.bind (srun (lyT Ln) (d + 4 + 1, 10, 0, [mR 69, mR 48, mI 1, mI q, mI (dp + 1)], [], σ2)) _ = _
  rw [e3, Option.bind_some]
  show some (σ3, mwrap (C 10 q + lowV C q)) = _
  rw [mw (by omega) (by omega)]
theorem x_mark {Ln D : Nat} {q : Int} {σ : mmSt} {C : Cty} (a : AX σ C []) (wf : WF 12 C) (q0 : 0 ≤ q) (q1 : q < C 2 0) (hD : 9 ≤ D) : bgX Ln D 1 q 0 σ C [] (markV C q) (markT C q) := by
  have w0 := wf.1
  have w9 := wf.2.2.2 q q0 q1
  obtain ⟨d, rfl⟩ := Nat.exists_eq_add_of_le' hD
  unfold markV markT
  by_cases h4 : 4 ≤ C 8 q
  · rw [if_pos h4, if_pos h4]
    have bi := bull_in wf q0 q1
    refine bg_of (D := d + 8) (body := 23) a wf q0 q1 (.inr rfl) (by rw [if_neg (by omega), if_neg (by omega), if_neg (by omega), if_neg (by omega)]) ?_ (by omega)
    obtain ⟨σ1, e1, a1, f1⟩ := x_leave (Ln := Ln) a (by decide) (show 1 ≤ d + 7 by omega) 23
    obtain ⟨σ2, e2, a2, f2⟩ := g20 (Ln := Ln) (q := q) (dp := 1) a1 (by omega) (by decide) (show 2 ≤ d + 7 by omega)
    obtain ⟨σ3, e3, a3, f3⟩ := bg_bull (Ln := Ln) (dp := 1) (D := d + 6) a2 wf q0 q1 h4 (by omega) (by omega) (by decide) (by omega)
    refine ⟨σ3, ?_, a3, frA_trans f1 (frA_trans f2 f3)⟩
    rw [b_Asker_give, decide_eq_true (by omega), cond_true, e1, Option.bind_some]
    show Option.bind (srun (lyT Ln) (d + 7, 13, 0, [mR 69, mR 48, mI 20, mI q, mI 1, mJ], [], σ1)) _ = _
    rw [e2, Option.bind_some]
    show Option.bind (srun (lyT Ln) (d + 6 + 1, 10, 0, [mR 69, mR 48, mI 0, mI q, mI 1], [], σ2)) _ = _
    rw [e3, Option.bind_some]
    show some (σ3, mwrap (q - bullV C q)) = _
    rw [mw (by omega) (by omega)]
  · rw [if_neg h4, if_neg h4]
    exact bg_low (D := d + 8) a wf q0 q1 h4 (by omega) (by omega) (by decide) (by omega)
theorem x_size {Ln D : Nat} {q : Int} {σ : mmSt} {C : Cty} (a : AX σ C []) (wf : WF 12 C) (q0 : 0 ≤ q) (q1 : q < C 2 0) (hD : 9 ≤ D) : bgX Ln D 0 q 0 σ C [] (sizeV C q) (sizeT C q) := by
  have w0 := wf.1
  have w9 := wf.2.2.2 q q0 q1
  have li := low_in wf q0 q1
  obtain ⟨d, rfl⟩ := Nat.exists_eq_add_of_le' hD
  unfold sizeV sizeT
  by_cases h4 : 4 ≤ C 8 q
  · rw [if_pos h4, if_pos h4]
    exact bg_bull (D := d + 8) a wf q0 q1 h4 (by omega) (by omega) (by decide) (by omega)
  · rw [if_neg h4, if_neg h4]
    by_cases c2 : C 8 q = 2
    · rw [if_pos c2, if_pos c2]
      refine bg_of (D := d + 8) (body := 12) a wf q0 q1 (.inl rfl) (by rw [c2]; rfl) ?_ (by omega)
      refine g_un (D := d + 7) a (by omega) (by omega) (by decide) (by omega) (fun σ1 a1 => g11 (D := d + 6) a1 wf q0 q1 h4 (by omega) (by omega) (by decide) (by omega)) (fun σ1 σ2 a2 e2 e1 => ?_)
      rw [b_Asker_give, decide_eq_true (by omega), cond_true, e1, Option.bind_some]
      show Option.bind (srun (lyT Ln) (d + 7, 13, 0, [mR 69, mR 48, mI 11, mI q, mI (0 + 1), mJ], [], σ1)) _ = _
      rw [e2, Option.bind_some]
      show some (σ2, mwrap (-(C 10 q + lowV C q))) = _
      rw [mw (by omega) (by omega)]
    · rw [if_neg c2, if_neg c2]
      refine bg_of (D := d + 8) (body := 11) a wf q0 q1 (.inl rfl) ?_ (g11 (D := d + 7) a wf q0 q1 h4 (by omega) (by omega) (by decide) (by omega)) (by omega)
      by_cases c1 : C 8 q = 1
      · rw [c1]; rfl
      · rw [show C 8 q = 3 by omega]; rfl
/-! the model's -/
def mvX (Ln D M : Nat) (q : Int) (Lm : List mmV) (σ : mmSt) (C : Cty) (L : List Int) (v : Int) (T : List Int) : Prop := ∃ σ', srun (lyT Ln) (D, M, 0, Lm, [], σ) = some (σ', v) ∧ AM σ' C (L ++ T) ∧ frB σ σ'
theorem m_plain {Ln D : Nat} {q : Int} {σ : mmSt} {C : Cty} {L : List Int} (a : AM σ C L) (wf : WF 12 C) (q0 : 0 ≤ q) (q1 : q < C 2 0) (hl : L.length + 1 ≤ 16) (hD : 2 ≤ D) : mvX Ln D 234 q [mR 92, mI q] σ C L (C 10 q) [10] := by
  obtain ⟨d, rfl⟩ := Nat.exists_eq_add_of_le' hD
  obtain ⟨σ1, e1, a1, f1⟩ := m_began (Ln := Ln) a (by omega) (show 1 ≤ d + 1 by omega) 10
  refine ⟨σ1, ?_, a1, f1⟩
  rw [b_M_plainSize, e1, Option.bind_some]
  simp only [m_of2 (⟨.inl rfl, a1.2, wf⟩ : KM σ1 96 C) (show 1 ≤ d + 1 by omega) q0 q1, Option.bind_some]
theorem m_bull {Ln D : Nat} {q : Int} {σ : mmSt} {C : Cty} {L : List Int} (a : AM σ C L) (wf : WF 12 C) (q0 : 0 ≤ q) (q1 : q < C 2 0) (hl : L.length + 3 ≤ 16) (hD : 3 ≤ D) : mvX Ln D 235 q [mR 92, mI q, mJ, mJ] σ C L (bullV C q) (bullT C q) := by
  have w9 := wf.2.2.2 q q0 q1
  obtain ⟨d, rfl⟩ := Nat.exists_eq_add_of_le' hD
  unfold bullV bullT
  by_cases c : C 8 q = 5
  · rw [if_pos c, if_pos c]
    obtain ⟨σ1, e1, a1, f1⟩ := m_began (Ln := Ln) a (by omega) (show 1 ≤ d + 2 by omega) 14
    obtain ⟨σ2, e2, a2, f2⟩ := m_began (Ln := Ln) a1 (by simp; omega) (show 1 ≤ d + 2 by omega) 13
    obtain ⟨σ3, e3, a3, f3⟩ := m_plain (Ln := Ln) a2 wf q0 q1 (by simp; omega) (show 2 ≤ d + 2 by omega)
    refine ⟨σ3, ?_, by rw [show L ++ [14, 13, 10] = L ++ [14] ++ [13] ++ [10] by simp]; exact a3, frB_trans f1 (frB_trans f2 f3)⟩
    rw [b_M_bullSize, m_of0 (⟨.inl rfl, a.2, wf⟩ : KM σ 96 C) (by omega) q0 q1, Option.bind_some]
    simp (discharger := omega) only [decide_eq_false (show ¬ ¬ C 8 q = 5 by omega), cond_false, e1, e2, e3, Option.bind_some, mw]
  · rw [if_neg c, if_neg c]
    obtain ⟨σ2, e2, a2, f2⟩ := m_began (Ln := Ln) a (by omega) (show 1 ≤ d + 2 by omega) 13
    obtain ⟨σ3, e3, a3, f3⟩ := m_plain (Ln := Ln) a2 wf q0 q1 (by simp; omega) (show 2 ≤ d + 2 by omega)
    refine ⟨σ3, ?_, by rw [show L ++ [13, 10] = L ++ [13] ++ [10] by simp]; exact a3, frB_trans f2 f3⟩
    rw [b_M_bullSize, m_of0 (⟨.inl rfl, a.2, wf⟩ : KM σ 96 C) (by omega) q0 q1, Option.bind_some]
    simp (discharger := omega) only [decide_eq_true c, cond_true, e2, e3, Option.bind_some, mw]
theorem m_mark {Ln D : Nat} {q : Int} {σ : mmSt} {C : Cty} {L : List Int} (a : AM σ C L) (wf : WF 12 C) (q0 : 0 ≤ q) (q1 : q < C 2 0) (hl : L.length + 5 ≤ 16) (hD : 4 ≤ D) : mvX Ln D 236 q [mR 92, mI q, mJ, mJ] σ C L (markV C q) (markT C q) := by
  have w0 := wf.1
  have w9 := wf.2.2.2 q q0 q1
  obtain ⟨d, rfl⟩ := Nat.exists_eq_add_of_le' hD
  unfold markV markT
  by_cases h4 : 4 ≤ C 8 q
  · rw [if_pos h4, if_pos h4]
    have bi := bull_in wf q0 q1
    obtain ⟨σ1, e1, a1, f1⟩ := m_began (Ln := Ln) a (by omega) (show 1 ≤ d + 3 by omega) 23
    obtain ⟨σ2, e2, a2, f2⟩ := m_began (Ln := Ln) a1 (by simp; omega) (show 1 ≤ d + 3 by omega) 20
    obtain ⟨σ3, e3, a3, f3⟩ := m_bull (Ln := Ln) a2 wf q0 q1 (by simp; omega) (show 3 ≤ d + 3 by omega)
    refine ⟨σ3, ?_, by rw [show L ++ ([23, 20] ++ bullT C q) = L ++ [23] ++ [20] ++ bullT C q by simp]; exact a3, frB_trans f1 (frB_trans f2 f3)⟩
    rw [b_M_markOf, m_of0 (⟨.inl rfl, a.2, wf⟩ : KM σ 96 C) (by omega) q0 q1, Option.bind_some]
    simp (discharger := omega) only [decide_eq_false (show ¬ C 8 q < 4 by omega), cond_false, e1, e2, e3, Option.bind_some, mw]
  · rw [if_neg h4, if_neg h4]
    unfold lowV lowT
    by_cases c : C 8 q = 1
    · rw [if_pos c, if_pos c]
      obtain ⟨σ2, e2, a2, f2⟩ := m_began (Ln := Ln) a (by omega) (show 1 ≤ d + 3 by omega) 21
      obtain ⟨σ3, e3, a3, f3⟩ := m_began (Ln := Ln) a2 (by simp; omega) (show 1 ≤ d + 3 by omega) 20
      refine ⟨σ3, ?_, by rw [show L ++ [21, 20] = L ++ [21] ++ [20] by simp]; exact a3, frB_trans f2 f3⟩
      rw [b_M_markOf, m_of0 (⟨.inl rfl, a.2, wf⟩ : KM σ 96 C) (by omega) q0 q1, Option.bind_some]
      simp (discharger := omega) only [decide_eq_true (show C 8 q < 4 by omega), cond_true, decide_eq_true c, decide_eq_false (show ¬ ¬ C 8 q = 1 by omega), cond_false, e2, e3, Option.bind_some, m_of1 (⟨.inl rfl, a3.2, wf⟩ : KM σ3 96 C) (show 1 ≤ d + 3 by omega) q0 q1, mw]
    · rw [if_neg c, if_neg c]
      by_cases c3 : C 8 q = 3
      · rw [if_pos c3, if_pos c3]
        obtain ⟨σ1, e1, a1, f1⟩ := m_began (Ln := Ln) a (by omega) (show 1 ≤ d + 3 by omega) 22
        obtain ⟨σ2, e2, a2, f2⟩ := m_began (Ln := Ln) a1 (by simp; omega) (show 1 ≤ d + 3 by omega) 21
        obtain ⟨σ3, e3, a3, f3⟩ := m_began (Ln := Ln) a2 (by simp; omega) (show 1 ≤ d + 3 by omega) 20
        refine ⟨σ3, ?_, by rw [show L ++ [22, 21, 20] = L ++ [22] ++ [21] ++ [20] by simp]; exact a3, frB_trans f1 (frB_trans f2 f3)⟩
        rw [b_M_markOf, m_of0 (⟨.inl rfl, a.2, wf⟩ : KM σ 96 C) (by omega) q0 q1, Option.bind_some]
        simp (discharger := omega) only [decide_eq_true (show C 8 q < 4 by omega), cond_true, decide_eq_false c, decide_eq_true (show ¬ C 8 q = 1 from c), decide_eq_false (show ¬ ¬ C 8 q = 3 by omega), cond_false, e1, e2, e3, Option.bind_some, m_of1 (⟨.inl rfl, a3.2, wf⟩ : KM σ3 96 C) (show 1 ≤ d + 3 by omega) q0 q1, mw]
      · rw [if_neg c3, if_neg c3]
        obtain ⟨σ1, e1, a1, f1⟩ := m_began (Ln := Ln) a (by omega) (show 1 ≤ d + 3 by omega) 24
        obtain ⟨σ2, e2, a2, f2⟩ := m_began (Ln := Ln) a1 (by simp; omega) (show 1 ≤ d + 3 by omega) 21
        obtain ⟨σ3, e3, a3, f3⟩ := m_began (Ln := Ln) a2 (by simp; omega) (show 1 ≤ d + 3 by omega) 20
        refine ⟨σ3, ?_, by rw [show L ++ [24, 21, 20] = L ++ [24] ++ [21] ++ [20] by simp]; exact a3, frB_trans f1 (frB_trans f2 f3)⟩
        rw [b_M_markOf, m_of0 (⟨.inl rfl, a.2, wf⟩ : KM σ 96 C) (by omega) q0 q1, Option.bind_some]
        simp (discharger := omega) only [decide_eq_true (show C 8 q < 4 by omega), cond_true, decide_eq_false c, decide_eq_true (show ¬ C 8 q = 1 from c), decide_eq_true (show ¬ C 8 q = 3 from c3), cond_false, e1, e2, e3, Option.bind_some, m_of1 (⟨.inl rfl, a3.2, wf⟩ : KM σ3 96 C) (show 1 ≤ d + 3 by omega) q0 q1, mw]
theorem m_size {Ln D : Nat} {q : Int} {σ : mmSt} {C : Cty} {L : List Int} (a : AM σ C L) (wf : WF 12 C) (q0 : 0 ≤ q) (q1 : q < C 2 0) (hl : L.length + 8 ≤ 16) (hD : 5 ≤ D) : mvX Ln D 237 q [mR 92, mI q, mJ, mJ] σ C L (sizeV C q) (sizeT C q) := by
  have w9 := wf.2.2.2 q q0 q1
  have li := low_in wf q0 q1
  obtain ⟨d, rfl⟩ := Nat.exists_eq_add_of_le' hD
  unfold sizeV sizeT
  by_cases h4 : 4 ≤ C 8 q
  · rw [if_pos h4, if_pos h4]
    obtain ⟨σ3, e3, a3, f3⟩ := m_bull (Ln := Ln) a wf q0 q1 (by omega) (show 3 ≤ d + 4 by omega)
    refine ⟨σ3, ?_, a3, f3⟩
    rw [b_M_sizeOf, m_of0 (⟨.inl rfl, a.2, wf⟩ : KM σ 96 C) (by omega) q0 q1, Option.bind_some]
    simp (discharger := omega) only [decide_eq_false (show ¬ C 8 q < 4 by omega), cond_false, e3, Option.bind_some]
  · have mk : markV C q = lowV C q ∧ markT C q = lowT C q := ⟨if_neg h4, if_neg h4⟩
    rw [if_neg h4, if_neg h4]
    by_cases c2 : C 8 q = 2
    · rw [if_pos c2, if_pos c2]
      obtain ⟨σ1, e1, a1, f1⟩ := m_began (Ln := Ln) a (by omega) (show 1 ≤ d + 4 by omega) 12
      obtain ⟨σ2, e2, a2, f2⟩ := m_began (Ln := Ln) a1 (by simp; omega) (show 1 ≤ d + 4 by omega) 11
      obtain ⟨σ3, e3, a3, f3⟩ := m_plain (Ln := Ln) a2 wf q0 q1 (by simp; omega) (show 2 ≤ d + 4 by omega)
      obtain ⟨σ4, e4, a4, f4⟩ := m_mark (Ln := Ln) a3 wf q0 q1 (by simp; omega) (show 4 ≤ d + 4 by omega)
      rw [mk.1] at e4
      rw [mk.2] at a4
      refine ⟨σ4, ?_, by rw [show L ++ ([12, 11, 10] ++ lowT C q) = L ++ [12] ++ [11] ++ [10] ++ lowT C q by simp]; exact a4, frB_trans f1 (frB_trans f2 (frB_trans f3 f4))⟩
      rw [b_M_sizeOf, m_of0 (⟨.inl rfl, a.2, wf⟩ : KM σ 96 C) (by omega) q0 q1, Option.bind_some]
      simp (discharger := omega) only [decide_eq_true (show C 8 q < 4 by omega), cond_true, decide_eq_false (show ¬ ¬ C 8 q = 2 by omega), cond_false, e1, e2, e3, e4, Option.bind_some, mw]
    · rw [if_neg c2, if_neg c2]
      obtain ⟨σ2, e2, a2, f2⟩ := m_began (Ln := Ln) a (by omega) (show 1 ≤ d + 4 by omega) 11
      obtain ⟨σ3, e3, a3, f3⟩ := m_plain (Ln := Ln) a2 wf q0 q1 (by simp; omega) (show 2 ≤ d + 4 by omega)
      obtain ⟨σ4, e4, a4, f4⟩ := m_mark (Ln := Ln) a3 wf q0 q1 (by simp; omega) (show 4 ≤ d + 4 by omega)
      rw [mk.1] at e4
      rw [mk.2] at a4
      refine ⟨σ4, ?_, by rw [show L ++ ([11, 10] ++ lowT C q) = L ++ [11] ++ [10] ++ lowT C q by simp]; exact a4, frB_trans f2 (frB_trans f3 f4)⟩
      rw [b_M_sizeOf, m_of0 (⟨.inl rfl, a.2, wf⟩ : KM σ 96 C) (by omega) q0 q1, Option.bind_some]
      simp (discharger := omega) only [decide_eq_true (show C 8 q < 4 by omega), cond_true, decide_eq_true c2, e2, e3, e4, Option.bind_some, mw]
theorem sizeT_len (C : Cty) (q : Int) : (sizeT C q).length ≤ 16 := by
  unfold sizeT bullT lowT
  split
  · split <;> decide
  · split
    · split
      · decide
      · split <;> decide
    · split
      · decide
      · split <;> decide
theorem markT_len (C : Cty) (q : Int) : (markT C q).length ≤ 16 := by
  unfold markT bullT lowT
  split
  · split <;> decide
  · split
    · decide
    · split <;> decide
theorem ask_fin {Ln : Nat} {q x : Int} {σ σ1 σ2 : mmSt} {C : Cty} {v : Int} {T : List Int} (hR : Rel σ) (e1 : srun (lyT Ln) (99, 144, 0, [mR 4, mI q, mI x], [], σ) = some (σ1, v)) (a1 : AX σ1 C T) (f1 : frA (mup σ 69 1 0) σ1) (e2 : srun (lyT Ln) (99, 238, 0, [mR 92, mI q, mI x], [], σ1) = some (σ2, v)) (a2 : AM σ2 C T) (f2 : frB (mup (mup σ1 92 0 0) 92 26 0) σ2) (hl : T.length ≤ 16) : ∃ σ1 v σ2, srun (lyT Ln) (99, 144, 0, [mR 4, mI q, mI x], [], σ) = some (σ1, v) ∧ srun (lyT Ln) (99, 238, 0, [mR 92, mI q, mI x], [], σ1) = some (σ2, v) ∧ Rel σ2 ∧ σ1 0 = σ 0 ∧ σ2 0 = σ 0 := by
  have g1 : ∀ b j, ¬ (b = 70 ∨ (b = 69 ∧ j = 1)) → σ1 b j = σ b j := fun b j h => (f1 b j h).trans (mup_ne (by omega))
  have g2 : ∀ b j, ¬ (b = 104 ∨ (b = 92 ∧ (j = 26 ∨ j = 0))) → σ2 b j = σ1 b j := fun b j h => (f2 b j (by omega)).trans ((mup_ne (by omega)).trans (mup_ne (by omega)))
  have q : ∀ b j, ¬ (b = 70 ∨ (b = 69 ∧ j = 1)) → ¬ (b = 104 ∨ (b = 92 ∧ (j = 26 ∨ j = 0))) → σ2 b j = σ b j := fun b j p p' => (g2 b j p').trans (g1 b j p)
  refine ⟨σ1, v, σ2, e1, e2, Rel_of hR (tape_of (fun b j h => q b j (by omega) (by omega)) hR.2.1) (rows_of (fun b j h => q b j (by omega) (by omega)) hR.2.2.1) ⟨?_, ?_, ?_, fun j hj => ?_⟩ (fun b j h => q b j (by unfold cty at h; omega) (by unfold cty at h; omega)), funext fun j => g1 0 j (by omega), funext fun j => q 0 j (by omega) (by omega)⟩
  · rw [g2 69 1 (by omega), a1.1.1, a2.1.1]
  · rw [a2.1.1]; omega
  · rw [a2.1.1]; omega
  · rw [a2.1.1] at hj
    rw [g2 70 j (by omega), a1.1.2 j (by omega), a2.1.2 j (by omega)]
theorem k_144 (Ln : Nat) : ck_144 Rel Ln := by
  intro q x _ _ σ hR
  obtain ⟨C, ⟨h, h', hc⟩, hA⟩ := hR.2.2.2.1
  have b := now_b hc
  have hm0 := thr h'
  have X := b_X_ask Ln 98 σ q x
  rw [x_isQuarrel c48 h (by omega) (by omega) (by omega)] at X
  simp only [Option.bind_some, dec0, dec1, x_within (show 1 ≤ 98 by omega)] at X
  have M := fun τ => b_M_ask Ln 98 τ q x
  cases hq : inB q (C 2 0)
  · refine bad_fin hR (v := -1000001) (X.trans (by rw [hq]; rfl)) ((M σ).trans ?_)
    rw [m_isQuarrel hm0 (by omega) (by omega) (by omega), hq]; rfl
  cases hn : btB 0 x 1
  · refine bad_fin hR (v := -1000001) (X.trans (by rw [hq, hn]; rfl)) ((M σ).trans ?_)
    rw [m_isQuarrel hm0 (by omega) (by omega) (by omega), hq]
    simp only [Option.bind_some, dec0, dec1, m_in (show 1 ≤ 98 by omega), hn]; rfl
  have q1 := inB_t hq
  have x1' := btB_t hn
  have wf := good_W (now_q hc hq)
  have a0 : AX (mup σ 69 1 0) C [] := ⟨⟨mup_eq _ _ _ _, fun j hj => absurd hj (by simp)⟩, rep_X_of (fun c l h => mup_ne (by omega)) h, fun j => by rw [mup_ne (by omega), mup_ne (by omega), mup_ne (by omega)]; exact hR.1 j⟩
  rw [hq, hn] at X
  simp only [Bool.not_true, cond_false, cond_true] at X
  have AM0 : ∀ τ, (∀ j, τ 96 j = σ 96 j) → AM (mup (mup τ 92 0 0) 92 26 0) C [] ∧ rep 12 (cM ((mup τ 92 0 0) 96)) C := fun τ hτ => ⟨⟨⟨mup_eq _ _ _ _, fun j hj => absurd hj (by simp)⟩, rep_M_of (fun j => (mup_ne (by omega)).trans ((mup_ne (by omega)).trans (hτ j))) h'⟩, rep_M_of (fun j => (mup_ne (by omega)).trans (hτ j)) h'⟩
  by_cases c : x = 0
  · subst c
    obtain ⟨σ1, e1, a1, f1⟩ := x_size (Ln := Ln) a0 wf q1.1 q1.2 (show 9 ≤ 97 by omega)
    have h96 : ∀ j, σ1 96 j = σ 96 j := fun j => (f1 96 j (by omega)).trans (mup_ne (by omega))
    obtain ⟨am, hm⟩ := AM0 σ1 h96
    obtain ⟨σ2, e2, a2, f2⟩ := m_size (Ln := Ln) am wf q1.1 q1.2 (by decide) (show 5 ≤ 98 by omega)
    refine ask_fin hR (v := sizeV C q) (X.trans ?_) a1 f1 ((M σ1).trans ?_) a2 f2 (sizeT_len C q)
    · rw [b_Asker_answer, e1]; rfl
    · rw [m_isQuarrel hm (by omega) (by omega) (by omega), hq]
      simp only [Option.bind_some, dec0, dec1, m_in (show 1 ≤ 98 by omega), hn, Bool.not_true, cond_false, cond_true, e2]
      rfl
  · obtain ⟨σ1, e1, a1, f1⟩ := x_mark (Ln := Ln) a0 wf q1.1 q1.2 (show 9 ≤ 97 by omega)
    have h96 : ∀ j, σ1 96 j = σ 96 j := fun j => (f1 96 j (by omega)).trans (mup_ne (by omega))
    obtain ⟨am, hm⟩ := AM0 σ1 h96
    obtain ⟨σ2, e2, a2, f2⟩ := m_mark (Ln := Ln) am wf q1.1 q1.2 (by decide) (show 4 ≤ 98 by omega)
    have ex : x = 1 := by omega
    subst ex
    refine ask_fin hR (v := markV C q) (X.trans ?_) a1 f1 ((M σ1).trans ?_) a2 f2 (markT_len C q)
    · rw [b_Asker_answer, e1]; rfl
    · rw [m_isQuarrel hm (by omega) (by omega) (by omega), hq]
      simp only [Option.bind_some, dec0, dec1, m_in (show 1 ≤ 98 by omega), hn, Bool.not_true, cond_false, cond_true, decide_eq_true c, e2]
