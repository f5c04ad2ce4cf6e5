/-! trials: begin, lay, pass -/
theorem mcpy_ne {σ : mmSt} {a s b t n c j : Nat} (h : ¬ (c = b ∧ t ≤ j ∧ j < t + n)) : mcpy σ a s b t n c j = σ c j := if_neg h
theorem mcpy_eq {σ : mmSt} {a s b t n j : Nat} (h1 : t ≤ j) (h2 : j < t + n) : mcpy σ a s b t n b j = σ a (s + (j - t)) := if_pos ⟨rfl, h1, h2⟩
def zt (C : Cty) : Cty := fun f i => if f < 12 then C f i else 0
theorem zt_lt {C : Cty} {f : Nat} {i : Int} (h : f < 12) : zt C f i = C f i := if_pos h
theorem zt_ge {C : Cty} {f : Nat} {i : Int} (h : ¬ f < 12) : zt C f i = 0 := if_neg h
theorem sz_zt (C : Cty) (f : Nat) : szC (zt C) f = szC C f := by
  unfold szC
  rw [zt_lt (by omega), zt_lt (by omega)]
theorem WF_zt {g : Int} {C : Cty} (w : WF g C) : WF g (zt C) := w
theorem tv_zt (C : Cty) : tv (zt C) := by
  have z : vI 0 := ⟨by decide, by decide⟩
  exact ⟨z, z, fun _ _ _ => z⟩
theorem x_bec88 {Ln a b : Nat} (hab : bpair a b) {D : Nat} (hD : 1 ≤ D) : ∀ (n : Nat) (z : Int) (σ : mmSt), z + n = 5 → 0 ≤ z → ∃ σ', srun (lyT Ln) (D, 24, 88, [mR a, mR b, mI z], [], σ) = some (σ', 0) ∧ (∀ c j, c ≠ a + 9 → σ' c j = σ c j) ∧ ∀ j : Nat, (z ≤ (j : Int) → j < 5 → σ' (a + 9) j = 0) ∧ ((j : Int) < z → σ' (a + 9) j = σ (a + 9) j) := by
  obtain ⟨d, rfl⟩ := Nat.exists_eq_add_of_le' hD
  intro n
  induction n with
  | zero =>
    intro z σ e h0
    rw [b_County_become_88 _ _ _ _ _ _ hab, decide_eq_true (by omega)]
    exact ⟨σ, rfl, fun _ _ _ => rfl, fun j => ⟨fun h1 h2 => by omega, fun _ => rfl⟩⟩
  | succ n ih =>
    intro z σ e h0
    rw [b_County_become_88 _ _ _ _ _ _ hab, decide_eq_false (by omega), cond_false, minb_t h0 (by omega), cond_true, mw (by omega) (by omega)]
    obtain ⟨σ', e1, f1, g1⟩ := ih (z + 1) (mup σ (a + 9) (Int.toNat z) 0) (by omega) (by omega)
    refine ⟨σ', e1, fun c j h => (f1 c j h).trans (mup_ne (by omega)), fun j => ⟨fun h1 h2 => ?_, fun h1 => ?_⟩⟩
    · by_cases c : (j : Int) = z
      · rw [(g1 j).2 (by omega), mup_ap, if_pos (by omega)]
      · exact (g1 j).1 (by omega) h2
    · rw [(g1 j).2 (by omega), mup_ne (by omega)]
theorem rep_mkX {σ : mmSt} {a : Nat} {C : Cty} (e0 : σ a 0 = C 0 0) (e1 : σ a 1 = C 1 0) (e2 : σ a 2 = C 2 0) (e3 : σ a 3 = C 3 0) (e4 : ∀ p : Int, 0 ≤ p → p < 7 → σ (a + 1) (Int.toNat p) = C 4 p) (e5 : ∀ p : Int, 0 ≤ p → p < C 1 0 → σ (a + 2) (Int.toNat p) = C 5 p) (e6 : ∀ p : Int, 0 ≤ p → p < C 1 0 → σ (a + 3) (Int.toNat p) = C 6 p) (e7 : ∀ p : Int, 0 ≤ p → p < C 1 0 → σ (a + 4) (Int.toNat p) = C 7 p) (e8 : ∀ p : Int, 0 ≤ p → p < C 2 0 → σ (a + 5) (Int.toNat p) = C 8 p) (e9 : ∀ p : Int, 0 ≤ p → p < C 2 0 → σ (a + 6) (Int.toNat p) = C 9 p) (e10 : ∀ p : Int, 0 ≤ p → p < C 2 0 → σ (a + 7) (Int.toNat p) = C 10 p) (e11 : ∀ p : Int, 0 ≤ p → p < C 2 0 → σ (a + 8) (Int.toNat p) = C 11 p) : rep 12 (cX σ a) C := by
  intro f i hf h0 h1
  have h : f = 0 ∨ f = 1 ∨ f = 2 ∨ f = 3 ∨ f = 4 ∨ f = 5 ∨ f = 6 ∨ f = 7 ∨ f = 8 ∨ f = 9 ∨ f = 10 ∨ f = 11 := by omega
  rcases h with rfl | rfl | rfl | rfl | rfl | rfl | rfl | rfl | rfl | rfl | rfl | rfl
  · rw [show i = 0 from by have : i < 1 := h1; omega]; exact e0
  · rw [show i = 0 from by have : i < 1 := h1; omega]; exact e1
  · rw [show i = 0 from by have : i < 1 := h1; omega]; exact e2
  · rw [show i = 0 from by have : i < 1 := h1; omega]; exact e3
  · exact e4 i h0 h1
  · exact e5 i h0 h1
  · exact e6 i h0 h1
  · exact e7 i h0 h1
  · exact e8 i h0 h1
  · exact e9 i h0 h1
  · exact e10 i h0 h1
  · exact e11 i h0 h1
theorem rep_15 {σ : mmSt} {a : Nat} {C : Cty} (h : rep 12 (cX σ a) C) (e12 : ∀ p : Int, 0 ≤ p → p < C 2 0 → σ (a + 9) (Int.toNat p) = C 12 p) (e13 : σ a 12 = C 13 0) (e14 : σ a 13 = C 14 0) : rep 15 (cX σ a) C := by
  intro f i hf h0 h1
  by_cases c : f < 12
  · exact h f i c h0 h1
  · have h : f = 12 ∨ f = 13 ∨ f = 14 := by omega
    rcases h with rfl | rfl | rfl
    · exact e12 i h0 h1
    · rw [show i = 0 from by have : i < 1 := h1; omega]; exact e13
    · rw [show i = 0 from by have : i < 1 := h1; omega]; exact e14
theorem x_become {Ln a b : Nat} (hab : bpair a b) {σ : mmSt} {C : Cty} (h : rep 12 (cX σ b) C) (b1 : C 1 0 ≤ 7) (b2 : C 2 0 ≤ 5) {D : Nat} (hD : 1 ≤ D) : ∃ σ', srun (lyT Ln) (D, 24, 0, [mR a, mR b, mJ], [], σ) = some (σ', 0) ∧ rep 15 (cX σ' a) (zt C) ∧ frX a σ σ' := by
  obtain ⟨d, rfl⟩ := Nat.exists_eq_add_of_le' hD
  have hd : a + 9 < b ∨ b + 9 < a := by unfold bpair at hab; omega
  rw [b_County_become _ _ _ _ _ hab]
  obtain ⟨σ', e, f, g⟩ := x_bec88 (Ln := Ln) hab (show 1 ≤ d + 1 by omega) 5 0 _ (by omega) (by omega)
  refine ⟨σ', e, rep_15 (rep_mkX ?_ ?_ ?_ ?_ (fun p h0 h1 => ?_) (fun p h0 h1 => ?_) (fun p h0 h1 => ?_) (fun p h0 h1 => ?_) (fun p h0 h1 => ?_) (fun p h0 h1 => ?_) (fun p h0 h1 => ?_) (fun p h0 h1 => ?_)) (fun p h0 h1 => ?_) ?_ ?_, fun c j hc => ?_⟩
  · rw [f _ _ (by omega)]; simp (discharger := omega) only [mup_ne, mcpy_ne, mup_eq]; exact (x0 h : _ = C 0 0)
  · rw [f _ _ (by omega)]; simp (discharger := omega) only [mup_ne, mcpy_ne, mup_eq]; exact (x1 h : _ = C 1 0)
  · rw [f _ _ (by omega)]; simp (discharger := omega) only [mup_ne, mcpy_ne, mup_eq]; exact (x2 h : _ = C 2 0)
  · rw [f _ _ (by omega)]; simp (discharger := omega) only [mup_ne, mcpy_ne, mup_eq]; exact (x3 h : _ = C 3 0)
  · rw [f _ _ (by omega)]; simp (discharger := omega) only [mup_ne, mcpy_ne, mcpy_eq]; rw [Nat.zero_add, Nat.sub_zero]; exact x4 h p h0 h1
  · have h1 : p < C 1 0 := h1
    rw [f _ _ (by omega)]; simp (discharger := omega) only [mup_ne, mcpy_ne, mcpy_eq]; rw [Nat.zero_add, Nat.sub_zero]; exact x5 h p h0 h1
  · have h1 : p < C 1 0 := h1
    rw [f _ _ (by omega)]; simp (discharger := omega) only [mup_ne, mcpy_ne, mcpy_eq]; rw [Nat.zero_add, Nat.sub_zero]; exact x6 h p h0 h1
  · have h1 : p < C 1 0 := h1
    rw [f _ _ (by omega)]; simp (discharger := omega) only [mup_ne, mcpy_ne, mcpy_eq]; rw [Nat.zero_add, Nat.sub_zero]; exact x7 h p h0 h1
  · have h1 : p < C 2 0 := h1
    rw [f _ _ (by omega)]; simp (discharger := omega) only [mup_ne, mcpy_ne, mcpy_eq]; rw [Nat.zero_add, Nat.sub_zero]; exact x8 h p h0 h1
  · have h1 : p < C 2 0 := h1
    rw [f _ _ (by omega)]; simp (discharger := omega) only [mup_ne, mcpy_ne, mcpy_eq]; rw [Nat.zero_add, Nat.sub_zero]; exact x9 h p h0 h1
  · have h1 : p < C 2 0 := h1
    rw [f _ _ (by omega)]; simp (discharger := omega) only [mup_ne, mcpy_ne, mcpy_eq]; rw [Nat.zero_add, Nat.sub_zero]; exact x10 h p h0 h1
  · have h1 : p < C 2 0 := h1
    rw [f _ _ (by omega)]; simp (discharger := omega) only [mup_ne, mcpy_ne, mcpy_eq]; rw [Nat.zero_add, Nat.sub_zero]; exact x11 h p h0 h1
  · have h1 : p < C 2 0 := h1
    exact (g (Int.toNat p)).1 (by omega) (by omega)
  · rw [f _ _ (by omega)]; simp (discharger := omega) only [mup_ne, mcpy_ne, mup_eq]; rfl
  · rw [f _ _ (by omega)]; simp (discharger := omega) only [mup_ne, mcpy_ne, mup_eq]; rfl
  · rw [f _ _ (by omega)]; simp (discharger := omega) only [mup_ne, mcpy_ne]
theorem fr_quiet {σ σ' : mmSt} (f : frX 58 σ σ') : quiet σ σ' := fun b j h => f b j (by unfold scr at h; omega)
theorem frM_quiet {σ σ' : mmSt} (f : frM 98 σ σ') : quiet σ σ' := fun b j h => f b j (by unfold scr at h; omega)
theorem x_begin {Ln : Nat} {σ : mmSt} {C : Cty} (h : rep 12 (cX σ 48) C) (w : WF 12 C) {D : Nat} (hD : 2 ≤ D) : ∃ σ', srun (lyT Ln) (D, 78, 0, [mR 47], [], σ) = some (σ', 0) ∧ KY 15 σ' 58 (zt C) ∧ frX 58 σ σ' := by
  obtain ⟨d, rfl⟩ := Nat.exists_eq_add_of_le' hD
  have := w.1
  obtain ⟨σ', e, r, f⟩ := x_become (Ln := Ln) (show bpair 58 48 by unfold bpair; omega) h (by omega) (by omega) (show 1 ≤ d + 1 by omega)
  exact ⟨σ', by rw [b_Seer_begin, e, Option.bind_some], ⟨by unfold cnty; omega, r, WF_zt w, by omega⟩, f⟩
def yearsC : Nat → Cty → Cty
  | 0, C => C
  | n + 1, C => yearsC n (yearC C)
theorem WF_years {g : Int} : ∀ (n : Nat) (C : Cty), WF g C → WF g (yearsC n C)
  | 0, _, w => w
  | n + 1, _, w => WF_years n _ (WF_year w)
theorem years_nf : ∀ (n : Nat) (C : Cty) {f : Nat} {i : Int}, (f < 9 ∨ f = 11) → f ≠ 4 → f ≠ 3 → yearsC n C f i = C f i
  | 0, _, _, _, _, _, _ => rfl
  | n + 1, C, _, _, a, b, c => (years_nf n (yearC C) a b c).trans (year_nf C a b c)
theorem x_passL {Ln : Nat} {N : Int} {D : Nat} (hD : 5 ≤ D) (hN : N ≤ 100) : ∀ (n : Nat) (z : Int) (σ : mmSt) (C : Cty), KY 15 σ 58 C → z + n = N → 0 ≤ z → ∃ σ', srun (lyT Ln) (D, 79, 2, [mR 47, mI N, mI z], [], σ) = some (σ', 0) ∧ KY 15 σ' 58 (yearsC n C) ∧ frX 58 σ σ' := by
  obtain ⟨d, rfl⟩ := Nat.exists_eq_add_of_le' hD
  intro n
  induction n with
  | zero =>
    intro z σ C k e h0
    rw [b_Seer_pass_2, decide_eq_true (by omega)]
    exact ⟨σ, rfl, k, frX_rfl _ _⟩
  | succ n ih =>
    intro z σ C k e h0
    obtain ⟨σ1, e1, k1, f1⟩ := x_year (Ln := Ln) k (show 4 ≤ d + 4 by omega)
    rw [b_Seer_pass_2, decide_eq_false (by omega), cond_false, e1, Option.bind_some, mw (by omega) (by omega)]
    obtain ⟨σ2, e2, k2, f2⟩ := ih (z + 1) σ1 (yearC C) k1 (by omega) (by omega)
    exact ⟨σ2, e2, k2, frX_trans f1 f2⟩
theorem x_pass {Ln : Nat} {N : Int} {D : Nat} (hD : 5 ≤ D) (h0 : 0 ≤ N) (hN : N ≤ 100) {σ : mmSt} {C : Cty} (k : KY 15 σ 58 C) : ∃ σ', srun (lyT Ln) (D, 79, 0, [mR 47, mI N, mJ], [], σ) = some (σ', 0) ∧ KY 15 σ' 58 (yearsC (Int.toNat N) C) ∧ frX 58 σ σ' := by
  obtain ⟨d, rfl⟩ := Nat.exists_eq_add_of_le' hD
  rw [b_Seer_pass]
  exact x_passL (by omega) hN (Int.toNat N) 0 σ C k (by omega) (by omega)
theorem x_ahead {Ln : Nat} {N : Int} {D : Nat} (hD : 6 ≤ D) (h0 : 0 ≤ N) (hN : N ≤ 100) {σ : mmSt} {C : Cty} (h : rep 12 (cX σ 48) C) (w : WF 12 C) : ∃ σ', srun (lyT Ln) (D, 80, 0, [mR 47, mI N], [], σ) = some (σ', 0) ∧ KY 15 σ' 58 (yearsC (Int.toNat N) (zt C)) ∧ frX 58 σ σ' := by
  obtain ⟨d, rfl⟩ := Nat.exists_eq_add_of_le' hD
  obtain ⟨σ1, e1, k1, f1⟩ := x_begin (Ln := Ln) h w (show 2 ≤ d + 5 by omega)
  obtain ⟨σ2, e2, k2, f2⟩ := x_pass (Ln := Ln) (show 5 ≤ d + 5 by omega) h0 hN k1
  rw [b_Seer_lookAhead, e1, Option.bind_some]
  simp only [e2, Option.bind_some]
  exact ⟨σ2, rfl, k2, frX_trans f1 f2⟩
theorem slM_lt {C : Cty} (hb : C 1 0 ≤ 7 ∧ C 2 0 ≤ 5) {f : Nat} {i : Int} (hf : f < 12) (h0 : 0 ≤ i) (h1 : i < szC C f) : slM f i < 52 := by
  unfold szC at h1
  unfold slM
  rw [if_pos (show f < 13 by omega)] at h1
  by_cases f1 : f < 4
  · rw [if_pos f1]; omega
  · rw [if_neg f1] at h1 ⊢
    by_cases f2 : f = 4
    · rw [if_pos f2] at h1 ⊢; omega
    · rw [if_neg f2] at h1 ⊢
      by_cases f3 : f < 8
      · rw [if_pos f3] at h1 ⊢; omega
      · rw [if_neg f3] at h1 ⊢; omega
theorem rep_M_52 {g g' : Nat → Int} {C : Cty} (hb : C 1 0 ≤ 7 ∧ C 2 0 ≤ 5) (h : ∀ j, j < 52 → g' j = g j) (w : rep 12 (cM g) C) : rep 12 (cM g') C := by
  intro f i hf h0 h1
  exact (h _ (slM_lt hb hf h0 h1)).trans (w f i hf h0 h1)
theorem m_layL {Ln : Nat} {D : Nat} (hD : 1 ≤ D) : ∀ (n : Nat) (z : Int) (σ : mmSt), z + n = 52 → 0 ≤ z → ∃ σ', srun (lyT Ln) (D, 193, 2, [mR 92, mI z], [], σ) = some (σ', 0) ∧ (∀ c j, c ≠ 98 → σ' c j = σ c j) ∧ ∀ j : Nat, (z ≤ (j : Int) → j < 52 → σ' 98 j = σ 96 j) ∧ ((j : Int) < z → σ' 98 j = σ 98 j) := by
  obtain ⟨d, rfl⟩ := Nat.exists_eq_add_of_le' hD
  intro n
  induction n with
  | zero =>
    intro z σ e h0
    rw [b_M_layThen_2, decide_eq_true (by omega)]
    exact ⟨σ, rfl, fun _ _ _ => rfl, fun j => ⟨fun h1 h2 => by omega, fun _ => rfl⟩⟩
  | succ n ih =>
    intro z σ e h0
    rw [b_M_layThen_2, decide_eq_false (by omega), cond_false, minb_t h0 (by omega), cond_true, cond_true, mw (by omega) (by omega)]
    obtain ⟨σ', e1, f1, g1⟩ := ih (z + 1) (mup σ 98 (Int.toNat z) (σ 96 (Int.toNat z))) (by omega) (by omega)
    refine ⟨σ', e1, fun c j h => (f1 c j h).trans (mup_ne (by omega)), fun j => ⟨fun h1 h2 => ?_, fun h1 => ?_⟩⟩
    · by_cases c : (j : Int) = z
      · rw [(g1 j).2 (by omega), mup_ap, if_pos (by omega)]; congr 1; omega
      · rw [(g1 j).1 (by omega) h2, mup_ne (by omega)]
    · rw [(g1 j).2 (by omega), mup_ne (by omega)]
theorem m_lay {Ln : Nat} {σ : mmSt} {C : Cty} (h : rep 12 (cM (σ 96)) C) (w : WF 12 C) {D : Nat} (hD : 1 ≤ D) : ∃ σ', srun (lyT Ln) (D, 193, 0, [mR 92, mJ], [], σ) = some (σ', 0) ∧ KM σ' 98 (zt C) ∧ frM 98 σ σ' := by
  obtain ⟨d, rfl⟩ := Nat.exists_eq_add_of_le' hD
  have := w.1
  obtain ⟨σ', e, f, g⟩ := m_layL (Ln := Ln) (show 1 ≤ d + 1 by omega) 52 0 σ (by omega) (by omega)
  rw [b_M_layThen]
  refine ⟨σ', e, ⟨.inr rfl, ?_, WF_zt w⟩, fun b j q => f b j (by omega)⟩
  exact rep_cg (rep_M_52 (by omega) (fun j hj => (g j).1 (by omega) hj) h) (by omega) (fun f i hf => zt_lt hf)
theorem m_yearsL {Ln : Nat} {N : Int} {D : Nat} (hD : 6 ≤ D) (hN : N ≤ 100) : ∀ (n : Nat) (z : Int) (σ : mmSt) (C : Cty), KM σ 98 C → z + n = N → 0 ≤ z → ∃ σ', srun (lyT Ln) (D, 192, 2, [mR 92, mR 98, mI N, mI z], [], σ) = some (σ', 0) ∧ KM σ' 98 (yearsC n C) ∧ frM 98 σ σ' := by
  obtain ⟨d, rfl⟩ := Nat.exists_eq_add_of_le' hD
  intro n
  induction n with
  | zero =>
    intro z σ C k e h0
    rw [b_M_yearsOf_2 _ _ _ _ _ _ k.1, decide_eq_true (by omega)]
    exact ⟨σ, rfl, k, frM_rfl _ _⟩
  | succ n ih =>
    intro z σ C k e h0
    obtain ⟨σ1, e1, k1, f1, _⟩ := m_year (Ln := Ln) k (show 5 ≤ d + 5 by omega)
    rw [b_M_yearsOf_2 _ _ _ _ _ _ k.1, decide_eq_false (by omega), cond_false, e1, Option.bind_some, mw (by omega) (by omega)]
    obtain ⟨σ2, e2, k2, f2⟩ := ih (z + 1) σ1 (yearC C) k1 (by omega) (by omega)
    exact ⟨σ2, e2, k2, frM_trans f1 f2⟩
theorem m_years {Ln : Nat} {N : Int} {D : Nat} (hD : 6 ≤ D) (h0 : 0 ≤ N) (hN : N ≤ 100) {σ : mmSt} {C : Cty} (k : KM σ 98 C) : ∃ σ', srun (lyT Ln) (D, 192, 0, [mR 92, mR 98, mI N, mJ], [], σ) = some (σ', 0) ∧ KM σ' 98 (yearsC (Int.toNat N) C) ∧ frM 98 σ σ' := by
  obtain ⟨d, rfl⟩ := Nat.exists_eq_add_of_le' hD
  rw [b_M_yearsOf _ _ _ _ _ k.1]
  exact m_yearsL (by omega) hN (Int.toNat N) 0 σ C k (by omega) (by omega)
