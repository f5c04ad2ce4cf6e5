/-! acts -/
theorem x_page {Ln d M p q : Nat} {σ : mmSt} (hM : (M = 5 ∧ p = 5 ∧ q = 6) ∨ (M = 6 ∧ p = 26 ∧ q = 27)) : ∀ n : Nat, n < 24 → srun (lyT Ln) (d + 1, M, p, [mR 21, mR 48], [mI (n : Int), mR 22, mR 48], σ) = srun (lyT Ln) (d + 1, M, q, [mR 21, mR 48], [mR (23 + n), mR 48], σ) := by
  intro n hn
  have h : n = 0 ∨ n = 1 ∨ n = 2 ∨ n = 3 ∨ n = 4 ∨ n = 5 ∨ n = 6 ∨ n = 7 ∨ n = 8 ∨ n = 9 ∨ n = 10 ∨ n = 11 ∨ n = 12 ∨ n = 13 ∨ n = 14 ∨ n = 15 ∨ n = 16 ∨ n = 17 ∨ n = 18 ∨ n = 19 ∨ n = 20 ∨ n = 21 ∨ n = 22 ∨ n = 23 := by omega
  rcases hM with ⟨rfl, rfl, rfl⟩ | ⟨rfl, rfl, rfl⟩ <;> rcases h with rfl | rfl | rfl | rfl | rfl | rfl | rfl | rfl | rfl | rfl | rfl | rfl | rfl | rfl | rfl | rfl | rfl | rfl | rfl | rfl | rfl | rfl | rfl | rfl <;> exact (srun_unr _ [] 1 _).trans rfl
theorem page_in {n : Nat} (h : n < 24) : mpage (23 + n) := by unfold mpage; omega
def pgI (nx K : Int) (k : Nat) : Nat := Int.toNat ((nx + 24 - K + k) % 24)
def actX (σ : mmSt) (K : Int) (H : Nat → Cty) : Prop := σ 21 0 = K ∧ 0 ≤ K ∧ K ≤ 24 ∧ 0 ≤ σ 21 2 ∧ σ 21 2 < 24 ∧ ∀ k : Nat, (k : Int) < K → repP σ (23 + pgI (σ 21 2) K k) (H k)
def actM (σ : mmSt) (K : Int) (H : Nat → Cty) : Prop := σ 92 9 = K ∧ 0 ≤ K ∧ K ≤ 24 ∧ ∀ k : Nat, (k : Int) < K → rep 12 (cM (fun j => σ 99 (52 * k + j))) (H k)
def actG (C : Cty) (K : Int) (H : Nat → Cty) : Prop := ∀ k : Nat, (k : Int) < K → Good (H k) ∧ skel C (H k)
theorem acts_split {σ : mmSt} {C : Cty} (h : Racts σ C) : ∃ H, actX σ (σ 92 9) H ∧ actM σ (σ 92 9) H ∧ actG C (σ 92 9) H := by
  obtain ⟨h1, h2, h3, h4, h5, h6⟩ := h
  have h7 : ∀ k : Nat, ∃ D, (k : Int) < σ 92 9 → Good D ∧ skel C D ∧ rep 12 (cM (fun j => σ 99 (52 * k + j))) D ∧ repP σ (23 + pgI (σ 21 2) (σ 92 9) k) D := by
    intro k
    by_cases c : (k : Int) < σ 92 9
    · obtain ⟨D, hD⟩ := h6 k c
      exact ⟨D, fun _ => hD⟩
    · exact ⟨C, fun a => absurd a c⟩
  obtain ⟨H, hH⟩ := Classical.axiomOfChoice h7
  exact ⟨H, ⟨h1, h2, h3, h4, h5, fun k hk => (hH k hk).2.2.2⟩, ⟨rfl, h2, h3, fun k hk => (hH k hk).2.2.1⟩, fun k hk => ⟨(hH k hk).1, (hH k hk).2.1⟩⟩
theorem acts_join {σ : mmSt} {C : Cty} {K : Int} {H : Nat → Cty} (a : actX σ K H) (m : actM σ K H) (g : actG C K H) : Racts σ C := by
  obtain ⟨a1, a2, a3, a4, a5, a6⟩ := a
  obtain ⟨m1, m2, m3, m4⟩ := m
  unfold Racts
  rw [a1, m1]
  exact ⟨rfl, a2, a3, a4, a5, fun k hk => ⟨H k, (g k hk).1, (g k hk).2, m4 k hk, a6 k hk⟩⟩
def K1 (K : Int) : Int := if K < 24 then K + 1 else 24
def H1 (K : Int) (H : Nat → Cty) (C : Cty) : Nat → Cty := fun k => if K < 24 then (if (k : Int) = K then C else H k) else (if k = 23 then C else H (k + 1))
theorem skel_rfl (C : Cty) : skel C C := fun _ _ _ => rfl
theorem skel_trans {A B C : Cty} (h : skel A B) (k : skel B C) : skel A C := fun f i q => (k f i q).trans (h f i q)
theorem skel_symm {A B : Cty} (h : skel A B) : skel B A := fun f i q => (h f i q).symm
theorem actG_push {C C' : Cty} {K : Int} {H : Nat → Cty} (g : actG C K H) (K0 : 0 ≤ K) (K2 : K ≤ 24) (h : Good C) (s : skel C C') : actG C' (K1 K) (H1 K H C) := by
  intro k hk
  unfold K1 at hk
  unfold H1
  by_cases c : K < 24
  · rw [if_pos c] at hk ⊢
    by_cases c2 : (k : Int) = K
    · rw [if_pos c2]; exact ⟨h, skel_symm s⟩
    · rw [if_neg c2]; exact ⟨(g k (by omega)).1, skel_trans (skel_symm s) (g k (by omega)).2⟩
  · rw [if_neg c] at hk ⊢
    by_cases c2 : k = 23
    · rw [if_pos c2]; exact ⟨h, skel_symm s⟩
    · rw [if_neg c2]; exact ⟨(g (k + 1) (by omega)).1, skel_trans (skel_symm s) (g (k + 1) (by omega)).2⟩
theorem pg_old {nx K : Int} {k : Nat} (n0 : 0 ≤ nx) (n1 : nx < 24) (K0 : 0 ≤ K) (K2 : K < 24) (hk : (k : Int) < K) : pgI (if 24 ≤ nx + 1 then 0 else nx + 1) (K + 1) k = pgI nx K k ∧ pgI nx K k ≠ Int.toNat nx ∧ pgI nx K k < 24 := by
  unfold pgI
  split <;> omega
theorem pg_new {nx K : Int} {k : Nat} (n0 : 0 ≤ nx) (n1 : nx < 24) (hk : (k : Int) = K) (K2 : K < 24) : pgI (if 24 ≤ nx + 1 then 0 else nx + 1) (K + 1) k = Int.toNat nx := by
  unfold pgI
  split <;> omega
theorem pg_oldF {nx : Int} {k : Nat} (n0 : 0 ≤ nx) (n1 : nx < 24) (hk : k < 23) : pgI (if 24 ≤ nx + 1 then 0 else nx + 1) 24 k = pgI nx 24 (k + 1) ∧ pgI nx 24 (k + 1) ≠ Int.toNat nx ∧ pgI nx 24 (k + 1) < 24 := by
  unfold pgI
  split <;> omega
theorem pg_newF {nx : Int} (n0 : 0 ≤ nx) (n1 : nx < 24) : pgI (if 24 ≤ nx + 1 then 0 else nx + 1) 24 23 = Int.toNat nx := by
  unfold pgI
  split <;> omega
def gfX (σ σ' : mmSt) : Prop := ∀ b j, ¬ (21 ≤ b ∧ b ≤ 57) → σ' b j = σ b j
def gfM (σ σ' : mmSt) : Prop := ∀ b j, ¬ (b = 96 ∨ b = 99 ∨ (b = 92 ∧ (j = 0 ∨ j = 9 ∨ (19 ≤ j ∧ j ≤ 21)))) → σ' b j = σ b j
theorem gfX_trans {a b c : mmSt} (h : gfX a b) (k : gfX b c) : gfX a c := fun x j q => (k x j q).trans (h x j q)
theorem gfM_trans {a b c : mmSt} (h : gfM a b) (k : gfM b c) : gfM a c := fun x j q => (k x j q).trans (h x j q)
theorem x_keep {Ln : Nat} {σ : mmSt} {C : Cty} {K : Int} {H : Nat → Cty} (h : rep 12 (cX σ 48) C) (b1 : C 1 0 ≤ 7) (b2 : C 2 0 ≤ 5) (a : actX σ K H) {D : Nat} (hD : 2 ≤ D) : ∃ σ', srun (lyT Ln) (D, 5, 0, [mR 21, mR 48], [], σ) = some (σ', 0) ∧ actX σ' (K1 K) (H1 K H C) ∧ ∀ b j, ¬ (21 ≤ b ∧ b ≤ 46) → σ' b j = σ b j := by
  obtain ⟨d, rfl⟩ := Nat.exists_eq_add_of_le' hD
  obtain ⟨a1, a2, a3, a4, a5, a6⟩ := a
  have pin := page_in (n := Int.toNat (σ 21 2)) (by omega)
  have e5 := x_page (Ln := Ln) (d := d + 1) (σ := σ) (.inl ⟨rfl, rfl, rfl⟩) (Int.toNat (σ 21 2)) (by omega)
  rw [Int.toNat_of_nonneg a4] at e5
  rw [b_Acts_keep, e5, b_Acts_keep_6 _ _ _ _ pin, b_County_writeTo _ _ _ _ c48 _ pin, Option.bind_some]
  have S : ∀ (s : mmSt), s = mcpy (mcpy (mcpy (mcpy (mup σ (23 + Int.toNat (σ 21 2)) 0 (σ 48 3)) (48 + 1) 0 (23 + Int.toNat (σ 21 2)) 1 7) (48 + 4) 0 (23 + Int.toNat (σ 21 2)) 8 7) (48 + 6) 0 (23 + Int.toNat (σ 21 2)) 15 5) (48 + 7) 0 (23 + Int.toNat (σ 21 2)) 20 5 → repP s (23 + Int.toNat (σ 21 2)) C ∧ ∀ b j, b ≠ 23 + Int.toNat (σ 21 2) → s b j = σ b j := by
    intro s hs
    subst hs
    refine ⟨⟨?_, fun i i0 i1 => ?_, fun i i0 i1 => ?_, fun i i0 i1 => ⟨?_, ?_⟩⟩, fun b j hb => ?_⟩
    · simp (discharger := omega) only [mcpy_ne, mup_eq]; exact x3 h
    · simp (discharger := omega) only [mcpy_ne, mcpy_eq, mup_ne]
      rw [show 0 + (Int.toNat (1 + i) - 1) = Int.toNat i by omega]; exact x4 h i i0 i1
    · simp (discharger := omega) only [mcpy_ne, mcpy_eq, mup_ne]
      rw [show 0 + (Int.toNat (8 + i) - 8) = Int.toNat i by omega]; exact x7 h i i0 i1
    · simp (discharger := omega) only [mcpy_ne, mcpy_eq, mup_ne]
      rw [show 0 + (Int.toNat (15 + i) - 15) = Int.toNat i by omega]; exact x9 h i i0 i1
    · simp (discharger := omega) only [mcpy_ne, mcpy_eq, mup_ne]
      rw [show 0 + (Int.toNat (20 + i) - 20) = Int.toNat i by omega]; exact x10 h i i0 i1
    · simp (discharger := omega) only [mcpy_ne, mup_ne]
  obtain ⟨S1, S2⟩ := S _ rfl
  generalize mcpy (mcpy (mcpy (mcpy (mup σ (23 + Int.toNat (σ 21 2)) 0 (σ 48 3)) (48 + 1) 0 (23 + Int.toNat (σ 21 2)) 1 7) (48 + 4) 0 (23 + Int.toNat (σ 21 2)) 8 7) (48 + 6) 0 (23 + Int.toNat (σ 21 2)) 15 5) (48 + 7) 0 (23 + Int.toNat (σ 21 2)) 20 5 = s at S1 S2 ⊢
  have F : ∀ v u : Int, v = (if 24 ≤ σ 21 2 + 1 then 0 else σ 21 2 + 1) → u = K1 K → actX (mup (mup s 21 2 v) 21 0 u) (K1 K) (H1 K H C) ∧ ∀ b j, ¬ (21 ≤ b ∧ b ≤ 46) → (mup (mup s 21 2 v) 21 0 u) b j = σ b j := by
    intro v u hv hu
    have e2 : (mup (mup s 21 2 v) 21 0 u) 21 2 = v := by rw [mup_ne (by omega), mup_eq]
    have ep : ∀ p j, p < 24 → (mup (mup s 21 2 v) 21 0 u) (23 + p) j = s (23 + p) j := fun p j hp => by rw [mup_ne (by omega), mup_ne (by omega)]
    have old : ∀ p D, p < 24 → p ≠ Int.toNat (σ 21 2) → repP σ (23 + p) D → repP (mup (mup s 21 2 v) 21 0 u) (23 + p) D := fun p D hp hn w => repP_of (fun j => (ep p j hp).trans (S2 _ j (by omega))) w
    have new : repP (mup (mup s 21 2 v) 21 0 u) (23 + Int.toNat (σ 21 2)) C := repP_of (fun j => ep _ j (by omega)) S1
    refine ⟨⟨by rw [mup_eq, hu], by unfold K1; split <;> omega, by unfold K1; split <;> omega, by rw [e2, hv]; split <;> omega, by rw [e2, hv]; split <;> omega, fun k hk => ?_⟩, fun b j hb => by rw [mup_ne (by omega), mup_ne (by omega), S2 _ _ (by omega)]⟩
    have P : ∀ (a : Int) (b : Nat), pgI v a b = pgI (if 24 ≤ σ 21 2 + 1 then 0 else σ 21 2 + 1) a b := fun _ _ => by rw [hv]
    rw [e2, P]
    unfold K1 at hk ⊢
    unfold H1
    by_cases c : K < 24
    · rw [if_pos c] at hk
      rw [if_pos c, if_pos c]
      by_cases c2 : (k : Int) = K
      · rw [if_pos c2, pg_new a4 a5 c2 c]; exact new
      · have pg := pg_old (k := k) a4 a5 a2 c (by omega)
        rw [if_neg c2, pg.1]; exact old _ _ pg.2.2 pg.2.1 (a6 k (by omega))
    · rw [if_neg c] at hk
      have hK : K = 24 := by omega
      rw [if_neg c, if_neg c]
      by_cases c2 : k = 23
      · rw [if_pos c2, c2, pg_newF a4 a5]; exact new
      · have pg := pg_oldF (k := k) a4 a5 (by omega)
        have w := a6 (k + 1) (by omega)
        rw [hK] at w
        rw [if_neg c2, pg.1]; exact old _ _ pg.2.2 pg.2.1 w
  have s2 : s 21 2 = σ 21 2 := S2 _ _ (by omega)
  have s0 : s 21 0 = K := (S2 _ _ (by omega)).trans a1
  have hm : mmini 24 (K + 1) = K1 K := by unfold mmini K1; split <;> split <;> omega
  simp (discharger := omega) only [s2, mw, mup_ne, s0, hm]
  by_cases c : 24 ≤ σ 21 2 + 1
  · rw [decide_eq_true c]
    exact ⟨_, rfl, F 0 _ (by rw [if_pos c]) rfl⟩
  · rw [decide_eq_false c]
    exact ⟨_, rfl, F _ _ (by rw [if_neg c]) rfl⟩
theorem m_keep29 {Ln : Nat} {K : Int} (K0 : 0 ≤ K) (K2 : K ≤ 23) {D : Nat} (hD : 1 ≤ D) : ∀ (n : Nat) (z : Int) (σ : mmSt), z + n = 52 → 0 ≤ z → σ 92 9 = K → ∃ σ', srun (lyT Ln) (D, 196, 29, [mR 92, mI z], [], σ) = some (σ', 0) ∧ σ' 92 9 = K + 1 ∧ (∀ b j, ¬ (b = 99 ∨ (b = 92 ∧ j = 9)) → σ' b j = σ b j) ∧ ∀ j : Nat, σ' 99 j = if 52 * K + z ≤ (j : Int) ∧ (j : Int) < 52 * K + 52 then σ 96 (j - 52 * Int.toNat K) else σ 99 j := by
  obtain ⟨d, rfl⟩ := Nat.exists_eq_add_of_le' hD
  intro n
  induction n with
  | zero =>
    intro z σ e z0 hK
    rw [b_M_keep_29, decide_eq_true (show 52 ≤ z by omega), hK, mw (by omega) (by omega)]
    exact ⟨_, rfl, mup_eq _ _ _ _, fun b j hb => mup_ne (by omega), fun j => by rw [if_neg (by omega), mup_ne (by omega)]⟩
  | succ n ih =>
    intro z σ e z0 hK
    rw [b_M_keep_29, decide_eq_false (show ¬ 52 ≤ z by omega), cond_false, hK, mw (z := 52 * K) (by omega) (by omega), mw (z := 52 * K + z) (by omega) (by omega), minb_t z0 (by omega), cond_true, minb_t (by omega) (by omega), cond_true, mw (by omega) (by omega)]
    obtain ⟨σ', e1, g1, f1, h1⟩ := ih (z + 1) (mup σ 99 (Int.toNat (52 * K + z)) (σ 96 (Int.toNat z))) (by omega) (by omega) (by rw [mup_ne (by omega)]; exact hK)
    refine ⟨σ', e1, g1, fun b j hb => (f1 b j hb).trans (mup_ne (by omega)), fun j => ?_⟩
    rw [h1, mup_ne (b := 96) (by omega), mup_ap]
    by_cases c : 52 * K + z ≤ (j : Int) ∧ (j : Int) < 52 * K + 52
    · rw [if_pos c]
      by_cases c2 : (j : Int) = 52 * K + z
      · rw [if_neg (by omega), if_pos (by omega)]; congr 1; omega
      · rw [if_pos (by omega)]
    · rw [if_neg c, if_neg (by omega), if_neg (by omega)]
theorem m_keep6 {Ln : Nat} {D : Nat} (hD : 1 ≤ D) : ∀ (n : Nat) (z : Int) (σ : mmSt), z + n = 1196 → 0 ≤ z → σ 92 9 = 24 → ∃ σ', srun (lyT Ln) (D, 196, 6, [mR 92, mI z], [], σ) = srun (lyT Ln) (D, 196, 29, [mR 92, mI 0], [], σ') ∧ σ' 92 9 = 23 ∧ (∀ b j, ¬ (b = 99 ∨ (b = 92 ∧ j = 9)) → σ' b j = σ b j) ∧ ∀ j : Nat, σ' 99 j = if z ≤ (j : Int) ∧ j < 1196 then σ 99 (j + 52) else σ 99 j := by
  obtain ⟨d, rfl⟩ := Nat.exists_eq_add_of_le' hD
  intro n
  induction n with
  | zero =>
    intro z σ e z0 hK
    rw [b_M_keep_6, decide_eq_true (show 1196 ≤ z by omega), cond_true, hK, show mwrap (24 - 1) = 23 from rfl]
    exact ⟨_, rfl, mup_eq _ _ _ _, fun b j hb => mup_ne (by omega), fun j => by rw [if_neg (by omega), mup_ne (by omega)]⟩
  | succ n ih =>
    intro z σ e z0 hK
    rw [b_M_keep_6, decide_eq_false (show ¬ 1196 ≤ z by omega), cond_false, mw (z := z + 52) (by omega) (by omega), minb_t (by omega) (by omega), cond_true, minb_t z0 (by omega), cond_true, mw (by omega) (by omega)]
    obtain ⟨σ', e1, g1, f1, h1⟩ := ih (z + 1) (mup σ 99 (Int.toNat z) (σ 99 (Int.toNat (z + 52)))) (by omega) (by omega) (by rw [mup_ne (by omega)]; exact hK)
    refine ⟨σ', e1, g1, fun b j hb => (f1 b j hb).trans (mup_ne (by omega)), fun j => ?_⟩
    rw [h1]
    by_cases c : z ≤ (j : Int) ∧ j < 1196
    · rw [if_pos c]
      by_cases c2 : (j : Int) = z
      · rw [if_neg (by omega), mup_ap, if_pos (by omega)]; congr 1; omega
      · rw [if_pos (by omega), mup_ne (by omega)]
    · rw [if_neg c, if_neg (by omega), mup_ne (by omega)]
theorem m_keep {Ln : Nat} {σ : mmSt} {C : Cty} {K : Int} {H : Nat → Cty} (h : rep 12 (cM (σ 96)) C) (b1 : C 1 0 ≤ 7) (b2 : C 2 0 ≤ 5) (hb : ∀ k : Nat, (k : Int) < K → H k 1 0 ≤ 7 ∧ H k 2 0 ≤ 5) (a : actM σ K H) {D : Nat} (hD : 1 ≤ D) : ∃ σ', srun (lyT Ln) (D, 196, 0, [mR 92, mJ], [], σ) = some (σ', 0) ∧ actM σ' (K1 K) (H1 K H C) ∧ ∀ b j, ¬ (b = 99 ∨ (b = 92 ∧ j = 9)) → σ' b j = σ b j := by
  obtain ⟨d, rfl⟩ := Nat.exists_eq_add_of_le' hD
  obtain ⟨a1, a2, a3, a4⟩ := a
  rw [b_M_keep]
  by_cases c : K < 24
  · rw [decide_eq_true (show ¬ σ 92 9 = 24 by omega), cond_true]
    obtain ⟨σ', e1, g1, f1, h1⟩ := m_keep29 (Ln := Ln) a2 (show K ≤ 23 by omega) (show 1 ≤ d + 1 by omega) 52 0 σ (by omega) (by omega) a1
    refine ⟨σ', e1, ⟨by unfold K1; rw [if_pos c, g1], by unfold K1; split <;> omega, by unfold K1; split <;> omega, fun k hk => ?_⟩, f1⟩
    unfold K1 at hk
    unfold H1
    rw [if_pos c] at hk ⊢
    by_cases c2 : (k : Int) = K
    · rw [if_pos c2]
      refine rep_M_52 ⟨b1, b2⟩ (fun j hj => ?_) h
      show σ' 99 (52 * k + j) = σ 96 j
      rw [h1, if_pos (by omega)]; congr 1; omega
    · rw [if_neg c2]
      refine rep_M_52 (hb k (by omega)) (fun j hj => ?_) (a4 k (by omega))
      show σ' 99 (52 * k + j) = σ 99 (52 * k + j)
      rw [h1, if_neg (by omega)]
  · have hK : K = 24 := by omega
    rw [decide_eq_false (show ¬ ¬ σ 92 9 = 24 by omega), cond_false]
    obtain ⟨σ1, e1, g1, f1, h1⟩ := m_keep6 (Ln := Ln) (show 1 ≤ d + 1 by omega) 1196 0 σ (by omega) (by omega) (by omega)
    obtain ⟨σ', e2, g2, f2, h2⟩ := m_keep29 (Ln := Ln) (show (0 : Int) ≤ 23 by omega) (by omega) (show 1 ≤ d + 1 by omega) 52 0 σ1 (by omega) (by omega) g1
    refine ⟨σ', e1.trans e2, ⟨by unfold K1; rw [if_neg c, g2]; omega, by unfold K1; split <;> omega, by unfold K1; split <;> omega, fun k hk => ?_⟩, fun b j q => (f2 b j q).trans (f1 b j q)⟩
    unfold K1 at hk
    unfold H1
    rw [if_neg c] at hk ⊢
    by_cases c2 : k = 23
    · rw [if_pos c2]
      refine rep_M_52 ⟨b1, b2⟩ (fun j hj => ?_) h
      show σ' 99 (52 * k + j) = σ 96 j
      rw [h2, if_pos (by omega), f1 96 _ (by omega), show 52 * k + j - 52 * Int.toNat 23 = j by omega]
    · rw [if_neg c2]
      refine rep_M_52 (hb (k + 1) (by omega)) (fun j hj => ?_) (a4 (k + 1) (by omega))
      show σ' 99 (52 * k + j) = σ 99 (52 * (k + 1) + j)
      rw [h2, if_neg (by omega), h1, if_pos (by omega)]; congr 1; omega
theorem actX_of {σ σ' : mmSt} {K : Int} {H : Nat → Cty} (q : ∀ b j, 21 ≤ b → b ≤ 46 → σ' b j = σ b j) (w : actX σ K H) : actX σ' K H := by
  obtain ⟨w1, w2, w3, w4, w5, w6⟩ := w
  unfold actX
  rw [q 21 0 (by omega) (by omega), q 21 2 (by omega) (by omega)]
  exact ⟨w1, w2, w3, w4, w5, fun k hk => repP_of (fun j => q _ _ (by omega) (by unfold pgI; omega)) (w6 k hk)⟩
theorem actM_of {σ σ' : mmSt} {K : Int} {H : Nat → Cty} (q : ∀ b j, b = 99 ∨ (b = 92 ∧ j = 9) → σ' b j = σ b j) (w : actM σ K H) : actM σ' K H := by
  obtain ⟨w1, w2, w3, w4⟩ := w
  unfold actM
  rw [q 92 9 (by omega)]
  exact ⟨w1, w2, w3, fun k hk => rep_M_of (fun j => q _ _ (by omega)) (w4 k hk)⟩
/-- an act: county and acts alone change -/
theorem act_fin {Ln mx mm : Nat} {Lx Lm : List mmV} {σ σ1 σ2 : mmSt} {v : Int} {C' : Cty} {K' : Int} {H' : Nat → Cty} (hR : Rel σ) (e1 : srun (lyT Ln) (99, mx, 0, Lx, [], σ) = some (σ1, v)) (r1 : rep 12 (cX σ1 48) C') (a1 : actX σ1 K' H') (f1 : gfX σ σ1) (e2 : srun (lyT Ln) (99, mm, 0, Lm, [], σ1) = some (σ2, v)) (r2 : rep 12 (cM (σ2 96)) C') (a2 : actM σ2 K' H') (f2 : gfM σ1 σ2) (g : Good C') (gh : actG C' K' H') : ∃ σ1 v σ2, srun (lyT Ln) (99, mx, 0, Lx, [], σ) = some (σ1, v) ∧ srun (lyT Ln) (99, mm, 0, Lm, [], σ1) = some (σ2, v) ∧ Rel σ2 ∧ σ1 0 = σ 0 ∧ σ2 0 = σ 0 := by
  have q : ∀ b j, ¬ (21 ≤ b ∧ b ≤ 57) → ¬ (b = 96 ∨ b = 99 ∨ (b = 92 ∧ (j = 0 ∨ j = 9 ∨ (19 ≤ j ∧ j ≤ 21)))) → σ2 b j = σ b j := fun b j p p' => (f2 b j p').trans (f1 b j p)
  obtain ⟨w1, w2, w3, _, w6, w7⟩ := hR
  refine ⟨σ1, v, σ2, e1, e2, ⟨tab_of (fun b j h1 h2 => q b j (by omega) (by omega)) w1, tape_of (fun b j h => q b j (by omega) (by omega)) w2, rows_of (fun b j h => q b j (by omega) (by omega)) w3, ⟨C', ⟨rep_X_of (fun b j h => f2 b j (by omega)) r1, r2, .inr g⟩, acts_join (actX_of (fun b j h1 h2 => f2 b j (by omega)) a1) a2 gh⟩, img_of (fun b j h => q b j (by omega) (by omega)) w6, trace_of (fun b j h => q b j (by omega) (by omega)) w7⟩, funext fun j => f1 0 j (by omega), funext fun j => q 0 j (by omega) (by omega)⟩
theorem bad_fin {Ln mx mm : Nat} {Lx Lm : List mmV} {σ : mmSt} {v : Int} (hR : Rel σ) (e1 : srun (lyT Ln) (99, mx, 0, Lx, [], σ) = some (σ, v)) (e2 : srun (lyT Ln) (99, mm, 0, Lm, [], σ) = some (mup σ 92 0 0, v)) : ∃ σ1 v σ2, srun (lyT Ln) (99, mx, 0, Lx, [], σ) = some (σ1, v) ∧ srun (lyT Ln) (99, mm, 0, Lm, [], σ1) = some (σ2, v) ∧ Rel σ2 ∧ σ1 0 = σ 0 ∧ σ2 0 = σ 0 :=
  ⟨σ, v, mup σ 92 0 0, e1, e2, Rel_quiet q0 hR, rfl, funext fun j => mup_ne (by omega)⟩
