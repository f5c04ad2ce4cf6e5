/-! a year of the model -/
theorem i32r {x : Int} (h : vI x) : (Int32.ofInt x).toInt = x := by
  rw [Int32.toInt_ofInt]; exact mwrap_id h
theorem mor_assoc (x y z : Int) : mor (mor x y) z = mor x (mor y z) := by
  unfold mor
  rw [i32_of, i32_of, Int32.or_assoc]
theorem mor_0 {x : Int} (h : vI x) : mor x 0 = x := by
  unfold mor
  rw [show Int32.ofInt 0 = 0 from rfl, Int32.or_zero]; exact i32r h
theorem mor_v (x y : Int) : vI (mor x y) := by
  unfold mor
  exact i32_rng _
theorem mwrap_add (x y : Int) : mwrap (mwrap x + y) = mwrap (x + y) := by
  unfold mwrap
  exact Int.bmod_add_bmod
theorem bit_orF : ∀ (e : Fin 32) (q : Fin 5), e.val < 2 ^ q.val → (0 ≤ mor (e.val : Int) (mshl 1 (q.val : Int)) ∧ mor (e.val : Int) (mshl 1 (q.val : Int)) < ((2 ^ (q.val + 1) : Nat) : Int)) := by decide +kernel
theorem bit_orG : ∀ (e : Fin 32) (q : Fin 5) (j : Fin 5), e.val < 2 ^ q.val → (mand (mshr (mor (e.val : Int) (mshl 1 (q.val : Int))) (j.val : Int)) 1 = mand (mshr (e.val : Int) (j.val : Int)) 1 + (if j.val = q.val then 1 else 0)) := by decide +kernel
theorem bit_orH : ∀ (e : Fin 32) (q : Fin 5), e.val < 2 ^ q.val → mand (mshr (e.val : Int) (q.val : Int)) 1 = 0 := by decide +kernel
theorem bit_or (e : Nat) (he : e < 32) (q : Nat) (hq : q < 5) (h : e < 2 ^ q) : (0 ≤ mor (e : Int) (mshl 1 (q : Int)) ∧ mor (e : Int) (mshl 1 (q : Int)) < ((2 ^ (q + 1) : Nat) : Int)) ∧ ∀ j : Nat, j < 5 → mand (mshr (mor (e : Int) (mshl 1 (q : Int))) (j : Int)) 1 = mand (mshr (e : Int) (j : Int)) 1 + (if j = q then 1 else 0) ∧ (j = q → mand (mshr (e : Int) (j : Int)) 1 = 0) :=
  ⟨bit_orF ⟨e, he⟩ ⟨q, hq⟩ h, fun j hj => ⟨bit_orG ⟨e, he⟩ ⟨q, hq⟩ ⟨j, hj⟩ h, fun c => by subst c; exact bit_orH ⟨e, he⟩ ⟨j, hq⟩ h⟩⟩
def frM (r : Nat) (σ σ' : mmSt) : Prop := ∀ b j, ¬ (b = r ∨ (b = 92 ∧ 19 ≤ j ∧ j ≤ 21)) → σ' b j = σ b j
theorem frM_rfl (r : Nat) (σ : mmSt) : frM r σ σ := fun _ _ _ => rfl
theorem frM_trans {r : Nat} {s t u : mmSt} (h : frM r s t) (k : frM r t u) : frM r s u := fun b j q => (k b j q).trans (h b j q)
theorem frM_up {r b i : Nat} {σ : mmSt} {v : Int} (h : b = r ∨ (b = 92 ∧ 19 ≤ i ∧ i ≤ 21)) : frM r σ (mup σ b i v) := fun c j q => mup_ne (by omega)
def tal (σ : mmSt) (B D : Cty) (q : Int) : Prop := D 13 0 = mor (B 13 0) (σ 92 20) ∧ (0 ≤ σ 92 21 ∧ σ 92 21 ≤ q ∧ D 14 0 = mwrap (B 14 0 + σ 92 21)) ∧ (0 ≤ σ 92 19 ∧ σ 92 19 < ((2 ^ Int.toNat q : Nat) : Int)) ∧ ∀ j : Int, 0 ≤ j → j < 5 → D 12 j = mwrap (B 12 j + mand (mshr (σ 92 19) j) 1)
theorem rep_cg {n : Nat} {E C C' : Cty} (h : rep n E C) (hn : 3 ≤ n) (e : ∀ f i, f < n → C' f i = C f i) : rep n E C' := by
  intro f i hf h0 h1
  rw [e f i hf]
  refine h f i hf h0 ?_
  unfold szC at h1 ⊢
  rw [e 1 0 (by omega), e 2 0 (by omega)] at h1
  exact h1
theorem pow_in {q : Int} (h0 : 0 ≤ q) (h1 : q < 5) : (2 ^ Int.toNat q : Nat) ≤ 16 ∧ (2 ^ Int.toNat (q + 1) : Nat) = 2 ^ (Int.toNat q + 1) := by
  refine ⟨?_, by rw [show Int.toNat (q + 1) = Int.toNat q + 1 by omega]⟩
  have : Int.toNat q ≤ 4 := by omega
  exact Nat.pow_le_pow_right (by decide) this
theorem tal_more {σ : mmSt} {B D : Cty} {q : Int} (t : tal σ B D q) (h0 : 0 ≤ q) (h1 : q < 5) : tal σ B D (q + 1) := by
  obtain ⟨t1, ⟨t2, t3, t4⟩, ⟨t5, t6⟩, t7⟩ := t
  have p := pow_in h0 h1
  refine ⟨t1, ⟨t2, by omega, t4⟩, ⟨t5, ?_⟩, t7⟩
  rw [p.2, Nat.pow_succ]
  omega
theorem tal_step {σ σ' : mmSt} {B D : Cty} {q : Int} (t : tal σ B D q) (h0 : 0 ≤ q) (h1 : q < 5) (hd : deadB D q = false) (e21 : σ' 92 21 = σ 92 21 + if goesC D q = D 9 q then 0 else 1) (e20 : σ' 92 20 = if D 4 (goesC D q) ≤ 0 then σ 92 20 else mor (σ 92 20) (mshl 1 (goesC D q))) (e19 : σ' 92 19 = if D 4 (goesC D q) ≤ 0 then σ 92 19 else mor (σ 92 19) (mshl 1 q)) : tal σ' B (stepC D q) (q + 1) := by
  obtain ⟨t1, ⟨t2, t3, t4⟩, ⟨t5, t6⟩, t7⟩ := t
  have p := pow_in h0 h1
  have bo := bit_or (Int.toNat (σ 92 19)) (by omega) (Int.toNat q) (by omega) (by omega)
  rw [Int.toNat_of_nonneg t5, Int.toNat_of_nonneg h0] at bo
  have w14 : walkC D q (goesC D q) 14 0 = mwrap (B 14 0 + σ' 92 21) := by
    unfold walkC
    rw [e21]
    by_cases c : goesC D q = D 9 q
    · rw [if_pos c, if_pos c, t4]; congr 1; omega
    · rw [if_neg c, if_neg c, cup_nf (by omega), cup_eq, t4, mwrap_add]; congr 1; omega
  have sc : stepC D q = eatC (walkC D q (goesC D q)) q := by unfold stepC; rw [hd]; rfl
  rw [sc]
  unfold eatC
  rw [walk_at, walk_nf _ _ _ (by omega) (by omega)]
  by_cases c : D 4 (goesC D q) ≤ 0
  · rw [if_pos c] at e20 e19 ⊢
    refine ⟨?_, ⟨?_, ?_, ?_⟩, ⟨?_, ?_⟩, fun j j0 j1 => ?_⟩
    · rw [cup_nf (by omega), walk_nf _ _ _ (by omega) (by omega), e20]; exact t1
    · rw [e21]; split <;> omega
    · rw [e21]; split <;> omega
    · rw [cup_nf (by omega)]; exact w14
    · rw [e19]; exact t5
    · rw [e19, p.2, Nat.pow_succ]; omega
    · rw [cup_nf (by omega), walk_nf _ _ _ (by omega) (by omega), e19]; exact t7 j j0 j1
  · rw [if_neg c] at e20 e19 ⊢
    refine ⟨?_, ⟨?_, ?_, ?_⟩, ⟨?_, ?_⟩, fun j j0 j1 => ?_⟩
    · rw [cup_eq, walk_nf _ _ _ (by omega) (by omega), e20, t1, mor_assoc]
    · rw [e21]; split <;> omega
    · rw [e21]; split <;> omega
    · rw [cup_nf (by omega), cup_nf (by omega), cup_nf (by omega), cup_nf (by omega)]; exact w14
    · rw [e19]; exact bo.1.1
    · rw [e19, p.2]; exact bo.1.2
    · have b := bo.2 (Int.toNat j) (by omega)
      rw [Int.toNat_of_nonneg j0] at b
      rw [cup_nf (by omega), e19, b.1]
      by_cases cj : j = q
      · rw [cj, cup_eq, walk_nf _ _ _ (by omega) (by omega), t7 q h0 h1, mwrap_add, if_pos rfl]; congr 1; omega
      · rw [cup_ni cj, cup_nf (by omega), cup_nf (by omega), walk_nf _ _ _ (by omega) (by omega), t7 j j0 j1, if_neg (by omega)]; congr 1; omega
theorem walk12 (D : Cty) (q t : Int) (f : Nat) (i : Int) (hf : f < 12) : walkC D q t f i = cup D 9 q t f i := by
  unfold walkC
  split
  · rename_i h
    rw [cup_ap]
    split
    · rename_i h2; rw [h2.1, h2.2, h]
    · rfl
  · rw [cup_ap, cup_nf (show ¬ f = 14 by omega)]; rfl
theorem m_hung {σ σ' : mmSt} {r : Nat} {C : Cty} (k : KM σ r C) {q g s : Int} (h0 : 0 ≤ q) (h1 : q < C 2 0) (hd : deadB C q = false) (c : C 4 (goesC C q) ≤ 0) (hg : g = σ 92 21 + if goesC C q = C 9 q then 0 else 1) (hs : s = mmaxi (if C 8 q = 5 then 1 else 0) (C 10 q - 1)) (e : σ' = mup (mup (mup σ 92 21 g) r (slM 9 q) (goesC C q)) r (slM 10 q) s) : rep 12 (cM (σ' r)) (stepC C q) ∧ frM r σ σ' ∧ ∀ B, tal σ B C q → tal σ' B (stepC C q) (q + 1) := by
  have w := k.2.2.1
  have hr : r = 96 ∨ r = 98 := k.1
  have sc : stepC C q = eatC (walkC C q (goesC C q)) q := by unfold stepC; rw [hd]; rfl
  have f9 : slM 9 q < 92 ∨ 0 < 1 := by omega
  subst e
  refine ⟨?_, frM_trans (frM_up (by omega)) (frM_trans (frM_up (by omega)) (frM_up (by omega))), fun B t => ?_⟩
  · have a1 : rep 12 (cM ((mup σ 92 21 g) r)) C := rep_M_of (fun j => mup_ne (by omega)) k.2.1
    have a2 := rep_upM (v := goesC C q) (by omega) (show 3 ≤ 9 by omega) (by omega) h0 h1 a1
    have a3 := rep_upM (f := 10) (v := s) (i := q) (by rw [cup_nf (by omega), cup_nf (by omega)]; omega) (by omega) (by omega) h0 (by rw [sz_upd (by omega)]; exact h1) a2
    refine rep_cg a3 (by omega) (fun f i hf => ?_)
    rw [sc]
    unfold eatC
    rw [walk_at, walk_nf _ _ _ (by omega) (by omega), if_pos c, walk_nf _ _ _ (by omega) (by omega), walk_nf _ _ _ (by omega) (by omega), ← hs, cup_ap, cup_ap (cup C 9 q (goesC C q)), walk12 _ _ _ _ _ hf]
  · refine tal_step t h0 (by omega) hd ?_ ?_ ?_
    · rw [mup_ne (by omega), mup_ne (by omega), mup_eq, hg]
    · rw [mup_ne (by omega), mup_ne (by omega), mup_ne (by omega), if_pos c]
    · rw [mup_ne (by omega), mup_ne (by omega), mup_ne (by omega), if_pos c]
theorem m_fed {σ σ' : mmSt} {r : Nat} {C : Cty} (k : KM σ r C) {q g s : Int} (h0 : 0 ≤ q) (h1 : q < C 2 0) (hd : deadB C q = false) (c : ¬ C 4 (goesC C q) ≤ 0) (hg : g = σ 92 21 + if goesC C q = C 9 q then 0 else 1) (hs : s = mmini 9 (C 10 q + if C 8 q = 3 then 2 else 1)) (e : σ' = mup (mup (mup (mup (mup (mup σ 92 21 g) r (slM 9 q) (goesC C q)) r (slM 4 (goesC C q)) (C 4 (goesC C q) - 1)) 92 19 (mor (σ 92 19) (mshl 1 q))) 92 20 (mor (σ 92 20) (mshl 1 (goesC C q)))) r (slM 10 q) s) : rep 12 (cM (σ' r)) (stepC C q) ∧ frM r σ σ' ∧ ∀ B, tal σ B C q → tal σ' B (stepC C q) (q + 1) := by
  have w := k.2.2.1
  have gi := goes_in k.2.2 h0 h1
  have hr : r = 96 ∨ r = 98 := k.1
  have sc : stepC C q = eatC (walkC C q (goesC C q)) q := by unfold stepC; rw [hd]; rfl
  subst e
  refine ⟨?_, frM_trans (frM_up (by omega)) (frM_trans (frM_up (by omega)) (frM_trans (frM_up (by omega)) (frM_trans (frM_up (by omega)) (frM_trans (frM_up (by omega)) (frM_up (by omega)))))), fun B t => ?_⟩
  · have a1 : rep 12 (cM ((mup σ 92 21 g) r)) C := rep_M_of (fun j => mup_ne (by omega)) k.2.1
    have a2 := rep_upM (v := goesC C q) (by omega) (show 3 ≤ 9 by omega) (by omega) h0 h1 a1
    have a3 := rep_upM (f := 4) (v := C 4 (goesC C q) - 1) (i := goesC C q) (by rw [cup_nf (by omega), cup_nf (by omega)]; omega) (by omega) (by omega) gi.1 (show goesC C q < 7 by omega) a2
    have a4 : rep 12 (cM ((mup (mup (mup (mup (mup σ 92 21 g) r (slM 9 q) (goesC C q)) r (slM 4 (goesC C q)) (C 4 (goesC C q) - 1)) 92 19 (mor (σ 92 19) (mshl 1 q))) 92 20 (mor (σ 92 20) (mshl 1 (goesC C q)))) r)) _ := rep_M_of (fun j => (mup_ne (by omega)).trans (mup_ne (by omega))) a3
    have a5 := rep_upM (f := 10) (v := s) (i := q) (by rw [cup_nf (by omega), cup_nf (by omega), cup_nf (by omega), cup_nf (by omega)]; omega) (by omega) (by omega) h0 (by rw [sz_upd (by omega), sz_upd (by omega)]; exact h1) a4
    refine rep_cg a5 (by omega) (fun f i hf => ?_)
    rw [sc]
    unfold eatC
    rw [walk_at, walk_nf _ _ _ (by omega) (by omega), if_neg c, walk_nf _ _ _ (by omega) (by omega), walk_nf _ _ _ (by omega) (by omega), ← hs, cup_nf (by omega), cup_nf (by omega), cup_ap, cup_ap, walk12 _ _ _ _ _ hf]
    rfl
  · refine tal_step t h0 (by omega) hd ?_ ?_ ?_
    · rw [mup_ne (by omega), mup_ne (by omega), mup_ne (by omega), mup_ne (by omega), mup_ne (by omega), mup_eq, hg]
    · rw [mup_ne (by omega), mup_eq, if_neg c]
    · rw [mup_ne (by omega), mup_ne (by omega), mup_eq, if_neg c]
theorem m_yearL {Ln : Nat} {r : Nat} {D : Nat} (hD : 5 ≤ D) : ∀ (n : Nat) (q : Int) (σ : mmSt) (C : Cty) (v3 v4 : mmV), KM σ r C → q + n = C 2 0 → 0 ≤ q → 0 ≤ σ 92 21 → σ 92 21 ≤ q → ∃ σ', srun (lyT Ln) (D, 191, 11, [mR 92, mR r, mI q, v3, v4], [], σ) = some (σ', 0) ∧ rep 12 (cM (σ' r)) (cup (yearL n q C) 3 0 (mwrap (yearL n q C 3 0 + 1))) ∧ frM r σ σ' ∧ (∀ B, tal σ B C q → tal σ' B (yearL n q C) (q + n)) := by
  obtain ⟨d, rfl⟩ := Nat.exists_eq_add_of_le' hD
  intro n
  induction n with
  | zero =>
    intro q σ C v3 v4 k e h0 g0 g1
    have w := k.2.2.1
    have hr : r = 96 ∨ r = 98 := k.1
    rw [b_M_year_11 _ _ _ _ _ _ _ k.1, m2 k.2.1, decide_eq_true (by omega), m3 k.2.1]
    refine ⟨_, rfl, rep_upM (C := C) (f := 3) (i := 0) (by omega) (by omega) (by omega) (by omega) (by show (0 : Int) < 1; omega) k.2.1, frM_up (by omega), fun B t => ?_⟩
    have e3 : ∀ j, (mup σ r 3 (mwrap (C 3 0 + 1))) 92 j = σ 92 j := fun j => mup_ne (by omega)
    unfold tal
    rw [e3, e3, e3, show q + ((0 : Nat) : Int) = q by omega]
    exact t
  | succ n ih =>
    intro q σ C v3 v4 k e h0 g0 g1
    have w := k.2.2.1
    have w3 := k.2.2.2.2.2 q h0 (by omega)
    have hr : r = 96 ∨ r = 98 := k.1
    have gi := goes_in k.2.2 h0 (show q < C 2 0 by omega)
    have wh := k.2.2.2.1 (goesC C q) (by omega) (by omega)
    have s2 : stepC C q 2 0 = C 2 0 := step_nf C q (by omega) (by omega)
    have st : WF 12 (stepC C q) := WF_step k.2.2 h0 (by omega)
    have fin : ∀ (σ1 : mmSt) (u3 u4 : mmV), 0 ≤ σ1 92 21 → σ1 92 21 ≤ q + 1 → (rep 12 (cM (σ1 r)) (stepC C q) ∧ frM r σ σ1 ∧ ∀ B, tal σ B C q → tal σ1 B (stepC C q) (q + 1)) → ∃ σ', srun (lyT Ln) (d + 5, 191, 11, [mR 92, mR r, mI (q + 1), u3, u4], [], σ1) = some (σ', 0) ∧ rep 12 (cM (σ' r)) (cup (yearL (n + 1) q C) 3 0 (mwrap (yearL (n + 1) q C 3 0 + 1))) ∧ frM r σ σ' ∧ (∀ B, tal σ B C q → tal σ' B (yearL (n + 1) q C) (q + (n + 1 : Nat))) := by
      intro σ1 u3 u4 ga gb ⟨a1, a2, a3⟩
      obtain ⟨σ', b1, b2, b3, b4⟩ := ih (q + 1) σ1 (stepC C q) u3 u4 ⟨k.1, a1, st⟩ (by omega) (by omega) ga gb
      refine ⟨σ', b1, b2, frM_trans a2 b3, fun B t => ?_⟩
      have := b4 B (a3 B t)
      rw [show q + ((n + 1 : Nat) : Int) = q + 1 + (n : Int) by omega]
      exact this
    rw [b_M_year_11 _ _ _ _ _ _ _ k.1, m2 k.2.1, decide_eq_false (by omega), cond_false, m_alive k (by omega) h0 (by omega), Option.bind_some]
    simp only [dec0]
    cases hd : deadB C q
    · have hs : ¬ C 10 q = 0 := by unfold deadB at hd; simpa using hd
      simp (discharger := omega) only [Bool.not_false, Bool.not_true, cond_false, m_goes k, m_of1 k, Option.bind_some, m_of k.1, mw, minb_t, cond_true, mup_ne, m9 k.2.1, m10 k.2.1, m8 k.2.1, m4 k.2.1]
      by_cases ct : goesC C q = C 9 q
      · rw [decide_eq_true ct, cond_true]
        by_cases c : C 4 (goesC C q) ≤ 0
        · rw [decide_eq_true c, cond_true]
          by_cases c5 : C 8 q = 5
          · rw [decide_eq_false (by omega), cond_false]
            by_cases cs : C 10 q = 1
            · rw [decide_eq_false (by omega), cond_false]
              refine fin _ _ _ ?_ ?_ (m_hung k h0 (by omega) hd c (by rw [if_pos ct]) ?_ rfl)
              · rw [mup_ne (by omega), mup_ne (by omega), mup_eq]; omega
              · rw [mup_ne (by omega), mup_ne (by omega), mup_eq]; omega
              · rw [if_pos c5]; unfold mmaxi; split <;> omega
            · rw [decide_eq_true cs, cond_true]
              refine fin _ _ _ ?_ ?_ (m_hung k h0 (by omega) hd c (by rw [if_pos ct]) ?_ rfl)
              · rw [mup_ne (by omega), mup_ne (by omega), mup_eq]; omega
              · rw [mup_ne (by omega), mup_ne (by omega), mup_eq]; omega
              · rw [if_pos c5]; unfold mmaxi; split <;> omega
          · rw [decide_eq_true c5, cond_true]
            refine fin _ _ _ ?_ ?_ (m_hung k h0 (by omega) hd c (by rw [if_pos ct]) ?_ rfl)
            · rw [mup_ne (by omega), mup_ne (by omega), mup_eq]; omega
            · rw [mup_ne (by omega), mup_ne (by omega), mup_eq]; omega
            · rw [if_neg c5]; unfold mmaxi; split <;> omega
        · rw [decide_eq_false c, cond_false]
          by_cases c3 : C 8 q = 3
          · rw [decide_eq_false (by omega), cond_false]
            by_cases cs : C 10 q + 2 ≤ 9
            · rw [decide_eq_true cs, cond_true]
              refine fin _ _ _ ?_ ?_ (m_fed k h0 (by omega) hd c (by rw [if_pos ct]) ?_ rfl)
              · simp (discharger := omega) only [mup_ne, mup_eq]; omega
              · simp (discharger := omega) only [mup_ne, mup_eq]; omega
              · rw [if_pos c3]; unfold mmini; split <;> omega
            · rw [decide_eq_false cs, cond_false]
              refine fin _ _ _ ?_ ?_ (m_fed k h0 (by omega) hd c (by rw [if_pos ct]) ?_ rfl)
              · simp (discharger := omega) only [mup_ne, mup_eq]; omega
              · simp (discharger := omega) only [mup_ne, mup_eq]; omega
              · rw [if_pos c3]; unfold mmini; split <;> omega
          · rw [decide_eq_true c3, cond_true]
            by_cases cs : C 10 q + 1 ≤ 9
            · rw [decide_eq_true cs, cond_true]
              refine fin _ _ _ ?_ ?_ (m_fed k h0 (by omega) hd c (by rw [if_pos ct]) ?_ rfl)
              · simp (discharger := omega) only [mup_ne, mup_eq]; omega
              · simp (discharger := omega) only [mup_ne, mup_eq]; omega
              · rw [if_neg c3]; unfold mmini; split <;> omega
            · rw [decide_eq_false cs, cond_false]
              refine fin _ _ _ ?_ ?_ (m_fed k h0 (by omega) hd c (by rw [if_pos ct]) ?_ rfl)
              · simp (discharger := omega) only [mup_ne, mup_eq]; omega
              · simp (discharger := omega) only [mup_ne, mup_eq]; omega
              · rw [if_neg c3]; unfold mmini; split <;> omega
      · rw [decide_eq_false ct, cond_false]
        by_cases c : C 4 (goesC C q) ≤ 0
        · rw [decide_eq_true c, cond_true]
          by_cases c5 : C 8 q = 5
          · rw [decide_eq_false (by omega), cond_false]
            by_cases cs : C 10 q = 1
            · rw [decide_eq_false (by omega), cond_false]
              refine fin _ _ _ ?_ ?_ (m_hung k h0 (by omega) hd c (by rw [if_neg ct]) ?_ rfl)
              · rw [mup_ne (by omega), mup_ne (by omega), mup_eq]; omega
              · rw [mup_ne (by omega), mup_ne (by omega), mup_eq]; omega
              · rw [if_pos c5]; unfold mmaxi; split <;> omega
            · rw [decide_eq_true cs, cond_true]
              refine fin _ _ _ ?_ ?_ (m_hung k h0 (by omega) hd c (by rw [if_neg ct]) ?_ rfl)
              · rw [mup_ne (by omega), mup_ne (by omega), mup_eq]; omega
              · rw [mup_ne (by omega), mup_ne (by omega), mup_eq]; omega
              · rw [if_pos c5]; unfold mmaxi; split <;> omega
          · rw [decide_eq_true c5, cond_true]
            refine fin _ _ _ ?_ ?_ (m_hung k h0 (by omega) hd c (by rw [if_neg ct]) ?_ rfl)
            · rw [mup_ne (by omega), mup_ne (by omega), mup_eq]; omega
            · rw [mup_ne (by omega), mup_ne (by omega), mup_eq]; omega
            · rw [if_neg c5]; unfold mmaxi; split <;> omega
        · rw [decide_eq_false c, cond_false]
          by_cases c3 : C 8 q = 3
          · rw [decide_eq_false (by omega), cond_false]
            by_cases cs : C 10 q + 2 ≤ 9
            · rw [decide_eq_true cs, cond_true]
              refine fin _ _ _ ?_ ?_ (m_fed k h0 (by omega) hd c (by rw [if_neg ct]) ?_ rfl)
              · simp (discharger := omega) only [mup_ne, mup_eq]; omega
              · simp (discharger := omega) only [mup_ne, mup_eq]; omega
              · rw [if_pos c3]; unfold mmini; split <;> omega
            · rw [decide_eq_false cs, cond_false]
              refine fin _ _ _ ?_ ?_ (m_fed k h0 (by omega) hd c (by rw [if_neg ct]) ?_ rfl)
              · simp (discharger := omega) only [mup_ne, mup_eq]; omega
              · simp (discharger := omega) only [mup_ne, mup_eq]; omega
              · rw [if_pos c3]; unfold mmini; split <;> omega
          · rw [decide_eq_true c3, cond_true]
            by_cases cs : C 10 q + 1 ≤ 9
            · rw [decide_eq_true cs, cond_true]
              refine fin _ _ _ ?_ ?_ (m_fed k h0 (by omega) hd c (by rw [if_neg ct]) ?_ rfl)
              · simp (discharger := omega) only [mup_ne, mup_eq]; omega
              · simp (discharger := omega) only [mup_ne, mup_eq]; omega
              · rw [if_neg c3]; unfold mmini; split <;> omega
            · rw [decide_eq_false cs, cond_false]
              refine fin _ _ _ ?_ ?_ (m_fed k h0 (by omega) hd c (by rw [if_neg ct]) ?_ rfl)
              · simp (discharger := omega) only [mup_ne, mup_eq]; omega
              · simp (discharger := omega) only [mup_ne, mup_eq]; omega
              · rw [if_neg c3]; unfold mmini; split <;> omega
    · have sc : stepC C q = C := by unfold stepC; rw [hd]; rfl
      rw [Bool.not_true, Bool.not_false, cond_true, mw (by omega) (by omega)]
      exact fin _ _ _ g0 (by omega) ⟨by rw [sc]; exact k.2.1, frM_rfl _ _, fun B t => by rw [sc]; exact tal_more t h0 (by omega)⟩
def tv (C : Cty) : Prop := vI (C 13 0) ∧ vI (C 14 0) ∧ ∀ j : Int, 0 ≤ j → j < 5 → vI (C 12 j)
theorem mwrap_v (x : Int) : vI (mwrap x) := mwrap_rng x
theorem m_year {Ln : Nat} {σ : mmSt} {r : Nat} {C : Cty} (k : KM σ r C) {D : Nat} (hD : 5 ≤ D) : ∃ σ', srun (lyT Ln) (D, 191, 0, [mR 92, mR r, mJ, mJ, mJ], [], σ) = some (σ', 0) ∧ KM σ' r (yearC C) ∧ frM r σ σ' ∧ (tv C → tal σ' C (yearC C) (C 2 0) ∧ tv (yearC C)) := by
  have w := k.2.2.1
  have hr : r = 96 ∨ r = 98 := k.1
  obtain ⟨d, rfl⟩ := Nat.exists_eq_add_of_le' hD
  obtain ⟨σ', e, rp, f, t⟩ := m_yearL (Ln := Ln) (show 5 ≤ d + 5 by omega) (Int.toNat (C 2 0)) 0 (mup (mup (mup σ 92 19 0) 92 20 0) 92 21 0) C mJ mJ ⟨k.1, rep_M_of (fun j => (mup_ne (by omega)).trans ((mup_ne (by omega)).trans (mup_ne (by omega)))) k.2.1, k.2.2⟩ (by omega) (by omega) (by rw [mup_eq]; omega) (by rw [mup_eq]; omega)
  refine ⟨σ', (b_M_year _ _ _ _ k.1).trans e, ⟨k.1, rp, WF_year k.2.2⟩, frM_trans (frM_trans (frM_up (by omega)) (frM_trans (frM_up (by omega)) (frM_up (by omega)))) f, fun ⟨v1, v2, v3⟩ => ?_⟩
  have t0 : tal (mup (mup (mup σ 92 19 0) 92 20 0) 92 21 0) C C 0 := by
    unfold tal
    rw [mup_eq, mup_ne (by omega), mup_eq, mup_ne (by omega), mup_ne (by omega), mup_eq]
    refine ⟨(mor_0 v1).symm, ⟨by omega, by omega, ?_⟩, ⟨by omega, by decide⟩, fun j j0 j1 => ?_⟩
    · rw [mwrap_id (by rw [Int.add_zero]; exact v2)]; omega
    · have z : ∀ n : Nat, n < 5 → mand (mshr 0 (n : Int)) 1 = 0 := by decide +kernel
      have := z (Int.toNat j) (by omega)
      rw [Int.toNat_of_nonneg j0] at this
      rw [this, mwrap_id (by rw [Int.add_zero]; exact v3 j j0 j1)]; omega
  have t1 := t C t0
  rw [show (0 : Int) + (Int.toNat (C 2 0) : Int) = C 2 0 by omega] at t1
  have t2 : tal σ' C (yearC C) (C 2 0) := by
    obtain ⟨a, ⟨b, c, g⟩, h, i⟩ := t1
    unfold yearC
    exact ⟨by rw [cup_nf (by omega)]; exact a, ⟨b, c, by rw [cup_nf (by omega)]; exact g⟩, h, fun j j0 j1 => by rw [cup_nf (by omega)]; exact i j j0 j1⟩
  refine ⟨t2, ?_, ?_, fun j j0 j1 => ?_⟩
  · rw [t2.1]; exact mor_v _ _
  · rw [t2.2.1.2.2]; exact mwrap_v _
  · rw [t2.2.2.2 j j0 j1]; exact mwrap_v _
