/-! way, reach -/
theorem mor_comm (x y : Int) : mor x y = mor y x := by
  unfold mor
  rw [Int32.or_comm]
theorem has_orF : ∀ (s : Fin 128) (a : Fin 7), hasB (s.val : Int) (a.val : Int) = true → mor (s.val : Int) (mshl 1 (a.val : Int)) = (s.val : Int) := by decide +kernel
theorem has_or {s a : Int} (s0 : 0 ≤ s) (s1 : s < 128) (a0 : 0 ≤ a) (a1 : a < 7) (h : hasB s a = true) : mor s (mshl 1 a) = s := by
  have := has_orF ⟨Int.toNat s, by omega⟩ ⟨Int.toNat a, by omega⟩
  rw [Int.toNat_of_nonneg s0, Int.toNat_of_nonneg a0] at this
  exact this h
theorem mor_natF : ∀ (a b : Fin 128), mor (a.val : Int) (b.val : Int) = ((a.val ||| b.val : Nat) : Int) := by decide +kernel
theorem pop_ltF : ∀ (s m : Fin 128), mor (m.val : Int) (s.val : Int) = (m.val : Int) → m.val ≠ s.val → pop (s.val : Int) < pop (m.val : Int) := by decide +kernel
theorem pop_leF : ∀ (s : Fin 128) (P : Fin 8), s.val < 2 ^ P.val → pop (s.val : Int) ≤ (P.val : Int) := by decide +kernel
theorem pop_1F : ∀ a : Fin 7, pop (mshl 1 (a.val : Int)) = 1 := by decide +kernel
def inP (P s : Int) : Prop := 0 ≤ s ∧ s < ((2 ^ Int.toNat P : Nat) : Int)
theorem inP_7 {P s : Int} (P0 : 0 ≤ P) (P1 : P ≤ 7) (h : inP P s) : 0 ≤ s ∧ s < 128 := by
  have := pow_7 P0 P1
  unfold inP at h
  omega
theorem mor_in {P x y : Int} (P0 : 0 ≤ P) (P1 : P ≤ 7) (hx : inP P x) (hy : inP P y) : inP P (mor x y) := by
  have a := inP_7 P0 P1 hx
  have b := inP_7 P0 P1 hy
  have := mor_natF ⟨Int.toNat x, by omega⟩ ⟨Int.toNat y, by omega⟩
  rw [Int.toNat_of_nonneg a.1, Int.toNat_of_nonneg b.1] at this
  unfold inP at hx hy ⊢
  have k := Nat.or_lt_two_pow (show Int.toNat x < 2 ^ Int.toNat P by omega) (show Int.toNat y < 2 ^ Int.toNat P by omega)
  rw [this]
  show (0 : Int) ≤ ((Int.toNat x ||| Int.toNat y : Nat) : Int) ∧ ((Int.toNat x ||| Int.toNat y : Nat) : Int) < _
  omega
theorem shl_in {P a : Int} (P1 : P ≤ 7) (a0 : 0 ≤ a) (a1 : a < P) : inP P (mshl 1 a) := by
  rw [shl_1 a0 (by omega)]
  unfold inP
  have k := Nat.pow_lt_pow_right (a := 2) (by decide) (show Int.toNat a < Int.toNat P by omega)
  exact ⟨Int.natCast_nonneg _, Int.ofNat_lt.mpr k⟩
theorem pop_lt {s m : Int} (hs : 0 ≤ s ∧ s < 128) (hm : 0 ≤ m ∧ m < 128) (h : mor m s = m) (hn : m ≠ s) : pop s < pop m := by
  have := pop_ltF ⟨Int.toNat s, by omega⟩ ⟨Int.toNat m, by omega⟩
  rw [Int.toNat_of_nonneg hs.1, Int.toNat_of_nonneg hm.1] at this
  exact this h (by show Int.toNat m ≠ Int.toNat s; omega)
theorem pop_le {P s : Int} (P0 : 0 ≤ P) (P1 : P ≤ 7) (h : inP P s) : pop s ≤ P := by
  have a := inP_7 P0 P1 h
  have := pop_leF ⟨Int.toNat s, by omega⟩ ⟨Int.toNat P, by omega⟩
  rw [Int.toNat_of_nonneg a.1, Int.toNat_of_nonneg P0] at this
  unfold inP at h
  exact this (by show Int.toNat s < 2 ^ Int.toNat P; omega)
def sprL (C : Cty) (q s : Int) : Nat → Int → Int → Int
  | 0, _, m => m
  | n + 1, r, m => sprL C q s n (r + 1) (bif crossB C q r && (hasB s (C 5 r) || hasB s (C 6 r)) then mor m (mor (mshl 1 (C 5 r)) (mshl 1 (C 6 r))) else m)
def sprC (C : Cty) (q s : Int) : Int := sprL C q s (Int.toNat (C 1 0)) 0 s
def itS (C : Cty) (q : Int) : Nat → Int → Int
  | 0, s => s
  | n + 1, s => itS C q n (sprC C q s)
theorem it_succ (C : Cty) (q : Int) : ∀ (n : Nat) (s : Int), itS C q (n + 1) s = sprC C q (itS C q n s)
  | 0, _ => rfl
  | n + 1, s => it_succ C q n (sprC C q s)
theorem it_add (C : Cty) (q : Int) : ∀ (n m : Nat) (s : Int), itS C q (n + m) s = itS C q m (itS C q n s)
  | 0, m, s => by rw [Nat.zero_add]; rfl
  | n + 1, m, s => by rw [show n + 1 + m = (n + m) + 1 by omega]; exact it_add C q n m (sprC C q s)
theorem sprL_ok {g : Int} {C : Cty} (w : WF g C) {q s : Int} (hs : inP (C 0 0) s) : ∀ (n : Nat) (r m : Int), r + n = C 1 0 → 0 ≤ r → inP (C 0 0) m → mor m s = m → inP (C 0 0) (sprL C q s n r m) ∧ mor (sprL C q s n r m) s = sprL C q s n r m := by
  have wf := w.1
  intro n
  induction n with
  | zero => intro r m _ _ hm h; exact ⟨hm, h⟩
  | succ n ih =>
    intro r m e r0 hm h
    have w5 := w.2.2.1 r r0 (by omega)
    rw [sprL]
    cases (crossB C q r && (hasB s (C 5 r) || hasB s (C 6 r)))
    · exact ih (r + 1) m (by omega) (by omega) hm h
    · refine ih (r + 1) _ (by omega) (by omega) (mor_in (by omega) (by omega) hm (mor_in (by omega) (by omega) (shl_in (by omega) w5.1 w5.2.1) (shl_in (by omega) w5.2.2.1 w5.2.2.2.1))) ?_
      show mor (mor m (mor (mshl 1 (C 5 r)) (mshl 1 (C 6 r)))) s = mor m (mor (mshl 1 (C 5 r)) (mshl 1 (C 6 r)))
      rw [mor_assoc, mor_comm _ s, ← mor_assoc, h]
theorem mor_self {s : Int} (h0 : 0 ≤ s) (h1 : s < 128) : mor s s = s := by
  have := mor_natF ⟨Int.toNat s, by omega⟩ ⟨Int.toNat s, by omega⟩
  rw [Int.toNat_of_nonneg h0] at this
  rw [this]
  show ((Int.toNat s ||| Int.toNat s : Nat) : Int) = s
  rw [Nat.or_self]; omega
theorem spr_ok {g : Int} {C : Cty} (w : WF g C) {q s : Int} (hs : inP (C 0 0) s) : inP (C 0 0) (sprC C q s) ∧ mor (sprC C q s) s = sprC C q s := by
  have wf := w.1
  have a := inP_7 (show 0 ≤ C 0 0 by omega) (by omega) hs
  exact sprL_ok w hs (Int.toNat (C 1 0)) 0 s (by omega) (by omega) hs (mor_self a.1 a.2)
theorem it_in {g : Int} {C : Cty} (w : WF g C) {q : Int} : ∀ (n : Nat) (s : Int), inP (C 0 0) s → inP (C 0 0) (itS C q n s)
  | 0, _, h => h
  | n + 1, s, h => it_in w n _ (spr_ok w h).1
theorem it_grow {g : Int} {C : Cty} (w : WF g C) {q s : Int} (hs : inP (C 0 0) s) : ∀ n : Nat, (∀ k, k < n → itS C q (k + 1) s ≠ itS C q k s) → pop s + n ≤ pop (itS C q n s) := by
  have wf := w.1
  intro n
  induction n with
  | zero => intro _; show pop s + ((0 : Nat) : Int) ≤ pop s; omega
  | succ n ih =>
    intro h
    have a := ih (fun k hk => h k (by omega))
    have hn := h n (by omega)
    have i0 := it_in w (q := q) n s hs
    have i1 := spr_ok w (q := q) i0
    rw [it_succ] at hn ⊢
    have := pop_lt (inP_7 (by omega) (by omega) i0) (inP_7 (by omega) (by omega) i1.1) i1.2 hn
    omega
theorem it_fix {g : Int} {C : Cty} (w : WF g C) {q s : Int} (hs : inP (C 0 0) s) (h1 : 1 ≤ pop s) : sprC C q (itS C q (Int.toNat (C 0 0 - 1)) s) = itS C q (Int.toNat (C 0 0 - 1)) s := by
  have wf := w.1
  have st : ∀ k, itS C q (k + 1) s = itS C q k s → ∀ j, itS C q (k + j) s = itS C q k s := by
    intro k hk j
    induction j with
    | zero => rfl
    | succ j ih =>
      rw [show k + (j + 1) = (k + j) + 1 by omega, it_succ, ih, ← it_succ, hk]
  by_cases c : ∀ k, k < Int.toNat (C 0 0) → itS C q (k + 1) s ≠ itS C q k s
  · have a := it_grow w hs (Int.toNat (C 0 0)) c
    have b := pop_le (show 0 ≤ C 0 0 by omega) (by omega) (it_in w (q := q) (Int.toNat (C 0 0)) s hs)
    omega
  · obtain ⟨k, hk⟩ := Classical.not_forall.mp c
    obtain ⟨hk1, hk2⟩ := Classical.not_imp.mp hk
    have e := Classical.not_not.mp hk2
    have e1 := st k e (Int.toNat (C 0 0 - 1) - k)
    have e2 := st k e (Int.toNat (C 0 0 - 1) + 1 - k)
    rw [show k + (Int.toNat (C 0 0 - 1) - k) = Int.toNat (C 0 0 - 1) by omega] at e1
    rw [show k + (Int.toNat (C 0 0 - 1) + 1 - k) = Int.toNat (C 0 0 - 1) + 1 by omega] at e2
    rw [← it_succ, e2, e1]
theorem it_stay {C : Cty} {q s : Int} (h : sprC C q s = s) : ∀ n : Nat, itS C q n s = s
  | 0 => rfl
  | n + 1 => by rw [itS, h]; exact it_stay h n
def findS (C : Cty) (q p : Int) : Nat → Int → Int → Int
  | 0, _, _ => -1000000
  | n + 1, k, s => bif hasB s p then k else findS C q p n (k + 1) (sprC C q s)
theorem findS_stay {C : Cty} {q p s : Int} (h : sprC C q s = s) (hp : hasB s p = false) : ∀ (n : Nat) (k : Int), findS C q p n k s = -1000000
  | 0, _ => rfl
  | n + 1, k => by rw [findS, hp, h]; exact findS_stay h hp n (k + 1)
theorem findS_add {C : Cty} {q p : Int} : ∀ (n m : Nat) (k s : Int), sprC C q (itS C q n s) = itS C q n s → findS C q p (n + 1 + m) k s = findS C q p (n + 1) k s
  | 0, m, k, s, h => by
    rw [show 0 + 1 + m = m + 1 by omega, findS, findS]
    cases hp : hasB s p
    · have h' : sprC C q s = s := h
      rw [h', cond_false, cond_false, findS_stay h' hp m (k + 1)]; rfl
    · rfl
  | n + 1, m, k, s, h => by
    rw [show n + 1 + 1 + m = (n + 1 + m) + 1 by omega, findS, findS]
    rw [findS_add n m (k + 1) (sprC C q s) h]
theorem x_spread {Ln : Nat} {σ : mmSt} {a : Nat} {C : Cty} (k : KX σ a C) {D : Nat} (hD : 2 ≤ D) {q s : Int} (q0 : 0 ≤ q) (q1 : q < C 2 0) : srun (lyT Ln) (D, 44, 0, [mR a, mI q, mI s, mJ, mJ], [], σ) = some (σ, sprC C q s) := by
  obtain ⟨d, rfl⟩ := Nat.exists_eq_add_of_le' hD
  have w := k.2.2.1
  rw [b_County_spread _ _ _ _ _ _ k.1]
  have : ∀ (n : Nat) (r m : Int), r + n = C 1 0 → 0 ≤ r → srun (lyT Ln) (d + 2, 44, 4, [mR a, mI q, mI s, mI m, mI r], [], σ) = some (σ, sprL C q s n r m) := by
    intro n
    induction n with
    | zero => intro r m e _; rw [b_County_spread_4 _ _ _ _ _ _ _ _ k.1, x1 k.2.1, decide_eq_true (by omega)]; rfl
    | succ n ih =>
      intro r m e r0
      rw [b_County_spread_4 _ _ _ _ _ _ _ _ k.1, x1 k.2.1, decide_eq_false (by omega), cond_false, x_cross k (by omega) q0 q1 r0 (by omega), Option.bind_some, mw (z := r + 1) (by omega) (by omega), sprL]
      simp only [dec0, dec1, minb_t r0 (show r < ((7 : Nat) : Int) by omega), cond_true, x5 k.2.1 r r0 (show r < C 1 0 by omega), x6 k.2.1 r r0 (show r < C 1 0 by omega), x_has (show 1 ≤ d + 1 by omega), Option.bind_some]
      rw [ih (r + 1) m (by omega) (by omega), ih (r + 1) (mor m (mor (mshl 1 (C 5 r)) (mshl 1 (C 6 r)))) (by omega) (by omega)]
      cases crossB C q r <;> cases hasB s (C 5 r) <;> cases hasB s (C 6 r) <;> rfl
  exact this (Int.toNat (C 1 0)) 0 s (by omega) (by omega)
theorem x_wayL {Ln : Nat} {σ : mmSt} {a : Nat} {C : Cty} (k : KX σ a C) {D : Nat} (hD : 3 ≤ D) {q p : Int} (q0 : 0 ≤ q) (q1 : q < C 2 0) : ∀ (n : Nat) (z s : Int), z + n = C 0 0 → 0 ≤ z → srun (lyT Ln) (D, 45, 9, [mR a, mI q, mI p, mI s, mI z], [], σ) = some (σ, findS C q p n z s) := by
  obtain ⟨d, rfl⟩ := Nat.exists_eq_add_of_le' hD
  have w := k.2.2.1
  intro n
  induction n with
  | zero => intro z s e _; rw [b_County_roadsTo_9 _ _ _ _ _ _ _ _ k.1, x0 k.2.1, decide_eq_true (by omega)]; rfl
  | succ n ih =>
    intro z s e z0
    rw [b_County_roadsTo_9 _ _ _ _ _ _ _ _ k.1, x0 k.2.1, decide_eq_false (by omega), cond_false, x_has (by omega), Option.bind_some, mw (by omega) (by omega), findS]
    simp only [dec0, x_spread k (show 2 ≤ d + 2 by omega) q0 q1, Option.bind_some]
    rw [ih (z + 1) (sprC C q s) (by omega) (by omega)]
    cases hasB s p <;> rfl
theorem x_allR {Ln : Nat} {σ : mmSt} {a : Nat} {C : Cty} (k : KX σ a C) {D : Nat} (hD : 3 ≤ D) {q : Int} (q0 : 0 ≤ q) (q1 : q < C 2 0) : ∀ (n : Nat) (z s : Int), z + n = C 0 0 → 0 ≤ z → srun (lyT Ln) (D, 46, 9, [mR a, mI q, mI s, mI z], [], σ) = some (σ, itS C q n s) := by
  obtain ⟨d, rfl⟩ := Nat.exists_eq_add_of_le' hD
  have w := k.2.2.1
  intro n
  induction n with
  | zero => intro z s e _; rw [b_County_allReached_9 _ _ _ _ _ _ _ k.1, x0 k.2.1, decide_eq_true (by omega)]; rfl
  | succ n ih =>
    intro z s e z0
    rw [b_County_allReached_9 _ _ _ _ _ _ _ k.1, x0 k.2.1, decide_eq_false (by omega), cond_false, x_spread k (by omega) q0 q1, Option.bind_some, mw (by omega) (by omega)]
    exact ih (z + 1) (sprC C q s) (by omega) (by omega)
theorem m_r17 {Ln : Nat} {σ : mmSt} {C : Cty} (k : KM σ 96 C) {D : Nat} (hD : 3 ≤ D) {q s R z : Int} (q0 : 0 ≤ q) (q1 : q < C 2 0) (hs : 0 ≤ s ∧ s < 128) (z0 : 0 ≤ z) (z1 : z < 100) : ∀ (n : Nat) (r m : Int), r + n = C 1 0 → 0 ≤ r → vI m → mor m s = m → ∃ u v, srun (lyT Ln) (D, 216, 17, [mR 92, mI q, mI R, mI s, mI z, mI m, mI r], [], σ) = srun (lyT Ln) (D, 216, 10, [mR 92, mI q, mI R, mI (sprL C q s n r m), mI (z + 1), u, v], [], σ) := by
  obtain ⟨d, rfl⟩ := Nat.exists_eq_add_of_le' hD
  have w := k.2.2.1
  intro n
  induction n with
  | zero =>
    intro r m e r0 vm h
    rw [b_M_reachBy_17, m1 k.2.1, decide_eq_true (by omega), cond_true, mw (by omega) (by omega)]
    exact ⟨_, _, rfl⟩
  | succ n ih =>
    intro r m e r0 vm h
    have w5 := k.2.2.2.2.1 r r0 (by omega)
    rw [b_M_reachBy_17, m1 k.2.1, decide_eq_false (by omega), cond_false, m_cross k (by omega) q0 q1 r0 (by omega), Option.bind_some, mw (z := r + 1) (by omega) (by omega), sprL]
    simp only [dec0, m_its0 k (show 1 ≤ d + 2 by omega) r0 (show r < C 1 0 by omega), m_its1 k (show 1 ≤ d + 2 by omega) r0 (show r < C 1 0 by omega), m_has (show 1 ≤ d + 2 by omega), Option.bind_some, mor_0 vm, mor_0 (mor_v m (mshl 1 (C 6 r)))]
    have ab : ∀ x, mor (mor m x) s = mor m x := fun x => by rw [mor_assoc, mor_comm x s, ← mor_assoc, h]
    have i0 := ih (r + 1) m (by omega) (by omega) vm h
    have i1 := ih (r + 1) (mor m (mor (mshl 1 (C 5 r)) (mshl 1 (C 6 r)))) (by omega) (by omega) (mor_v _ _) (ab _)
    have sub : ∀ a, 0 ≤ a → a < 7 → hasB s a = true → mor m (mshl 1 a) = m := fun a a0 a1 ha => by
      rw [← h, mor_assoc, has_or hs.1 hs.2 a0 a1 ha]
    cases crossB C q r
    · exact i0
    · cases h5 : hasB s (C 5 r)
      · cases h6 : hasB s (C 6 r)
        · exact i0
        · have : mor m (mor (mshl 1 (C 5 r)) (mshl 1 (C 6 r))) = mor m (mshl 1 (C 5 r)) := by
            rw [mor_comm (mshl 1 (C 5 r)), ← mor_assoc, sub (C 6 r) (by omega) (by omega) h6]
          rw [this] at i1
          simp only [Bool.true_and, Bool.false_or, Bool.or_true, Bool.not_true, Bool.not_false, cond_true, cond_false]
          rw [this]
          exact i1
      · cases h6 : hasB s (C 6 r)
        · have : mor m (mor (mshl 1 (C 5 r)) (mshl 1 (C 6 r))) = mor m (mshl 1 (C 6 r)) := by
            rw [← mor_assoc, sub (C 5 r) (by omega) (by omega) h5]
          rw [this] at i1
          simp only [Bool.true_and, Bool.true_or, Bool.not_true, Bool.not_false, cond_true, cond_false]
          rw [this]
          exact i1
        · have : mor m (mor (mshl 1 (C 5 r)) (mshl 1 (C 6 r))) = mor (mor m (mshl 1 (C 6 r))) (mshl 1 (C 5 r)) := by
            rw [mor_comm (mshl 1 (C 5 r)), mor_assoc]
          rw [this] at i1
          simp only [Bool.true_and, Bool.true_or, Bool.not_true, Bool.not_false, cond_true, cond_false]
          rw [this]
          exact i1
theorem m_r10 {Ln : Nat} {σ : mmSt} {C : Cty} (k : KM σ 96 C) {D : Nat} (hD : 3 ≤ D) {q R : Int} (q0 : 0 ≤ q) (q1 : q < C 2 0) (R1 : R ≤ 50) : ∀ (n : Nat) (z s : Int) (u v : mmV), z + n = R → 0 ≤ z → inP (C 0 0) s → srun (lyT Ln) (D, 216, 10, [mR 92, mI q, mI R, mI s, mI z, u, v], [], σ) = some (σ, itS C q n s) := by
  obtain ⟨d, rfl⟩ := Nat.exists_eq_add_of_le' hD
  have w := k.2.2.1
  intro n
  induction n with
  | zero => intro z s u v e _ _; rw [b_M_reachBy_10, decide_eq_true (by omega)]; rfl
  | succ n ih =>
    intro z s u v e z0 hs
    have a := inP_7 (show 0 ≤ C 0 0 by omega) (by omega) hs
    obtain ⟨u', v', e1⟩ := m_r17 (Ln := Ln) (R := R) k (show 3 ≤ d + 3 by omega) q0 q1 a z0 (by omega) (Int.toNat (C 1 0)) 0 s (by omega) (by omega) ⟨by omega, by omega⟩ (mor_self a.1 a.2)
    rw [b_M_reachBy_10, decide_eq_false (by omega), cond_false, e1]
    exact ih (z + 1) (sprC C q s) u' v' (by omega) (by omega) (spr_ok k.2.2 hs).1
theorem m_reachBy {Ln : Nat} {σ : mmSt} {C : Cty} (k : KM σ 96 C) {D : Nat} (hD : 3 ≤ D) {q R : Int} (q0 : 0 ≤ q) (q1 : q < C 2 0) (R0 : 0 ≤ R) (R1 : R ≤ 50) : srun (lyT Ln) (D, 216, 0, [mR 92, mI q, mI R, mJ, mJ, mJ, mJ], [], σ) = some (σ, itS C q (Int.toNat R) (mshl 1 (C 9 q))) := by
  obtain ⟨d, rfl⟩ := Nat.exists_eq_add_of_le' hD
  have w := k.2.2.1
  have w9 := k.2.2.2.2.2 q q0 q1
  rw [b_M_reachBy, m_of1 k (by omega) q0 q1, Option.bind_some]
  exact m_r10 k (by omega) q0 q1 R1 (Int.toNat R) 0 _ _ _ (by omega) (by omega) (shl_in (by omega) (by omega) (by omega))
theorem m_wayL {Ln : Nat} {σ : mmSt} {C : Cty} (k : KM σ 96 C) {q p : Int} (q0 : 0 ≤ q) (q1 : q < C 2 0) : ∀ (n : Nat) (z : Int), z + n = 7 → 0 ≤ z → srun (lyT Ln) (99, 217, 22, [mR 92, mI q, mI p, mI z], [], σ) = some (σ, findS C q p n z (itS C q (Int.toNat z) (mshl 1 (C 9 q)))) := by
  intro n
  induction n with
  | zero => intro z e _; rw [b_M_way_22, decide_eq_true (show 7 ≤ z by omega)]; rfl
  | succ n ih =>
    intro z e z0
    rw [b_M_way_22, decide_eq_false (show ¬ 7 ≤ z by omega), cond_false, m_reachBy k (by omega) q0 q1 z0 (by omega), Option.bind_some, mw (by omega) (by omega), findS]
    simp only [m_has (show 1 ≤ 98 by omega), Option.bind_some, dec0]
    rw [ih (z + 1) (by omega) (by omega), show Int.toNat (z + 1) = Int.toNat z + 1 by omega, it_succ]
    cases hasB (itS C q (Int.toNat z) (mshl 1 (C 9 q))) p <;> rfl
theorem pop_shl {a : Int} (a0 : 0 ≤ a) (a1 : a < 7) : pop (mshl 1 a) = 1 := by
  have := pop_1F ⟨Int.toNat a, by omega⟩
  rw [Int.toNat_of_nonneg a0] at this
  exact this
theorem k_131 (Ln : Nat) : ck_131 Rel Ln := fun q p _ _ => cok_v (fun C => bif inB q (C 2 0) && inB p (C 0 0) then (bif deadB C q then -1000002 else findS C q p (Int.toNat (C 0 0)) 0 (mshl 1 (C 9 q))) else -1000001)
  (fun σ C ⟨h, _, hc⟩ => by
    have b := now_b hc
    rw [b_X_way, x_isQuarrel c48 h (by omega) (by omega) (by omega)]
    simp only [Option.bind_some, dec0, dec1, x_isParish c48 h b.1 b.2.1 (show 2 ≤ 98 by omega)]
    cases hq : inB q (C 2 0)
    · exact ⟨σ, rfl, quiet_rfl _⟩
    cases hp : inB p (C 0 0)
    · exact ⟨σ, rfl, quiet_rfl _⟩
    have q1 := inB_t hq
    have k := good_X h (now_q hc hq)
    have w := k.2.2.1
    simp only [Bool.not_true, cond_false, cond_true, x_dead k (show 1 ≤ 98 by omega) q1.1 q1.2, Option.bind_some, dec0]
    cases deadB C q
    · rw [b_County_roadsTo _ _ _ _ _ _ k.1, minb_t q1.1 (by omega), cond_true, x9 k.2.1 q q1.1 q1.2, x_wayL k (by omega) q1.1 q1.2 (Int.toNat (C 0 0)) 0 _ (by omega) (by omega)]
      exact ⟨σ, rfl, quiet_rfl _⟩
    · exact ⟨σ, rfl, quiet_rfl _⟩)
  (fun σ C ⟨_, h, hc⟩ => by
    have b := now_b hc
    have h := thr h
    rw [b_M_way, m_isQuarrel h (by omega) (by omega) (by omega)]
    simp only [Option.bind_some, dec0, dec1, m_isParish h b.1 b.2.1 (show 2 ≤ 98 by omega)]
    cases hq : inB q (C 2 0)
    · exact ⟨_, rfl, q0⟩
    cases hp : inB p (C 0 0)
    · exact ⟨_, rfl, q0⟩
    have q1 := inB_t hq
    have k := good_M h (now_q hc hq)
    have w := k.2.2.1
    have w9 := k.2.2.2.2.2 q q1.1 q1.2
    simp only [Bool.not_true, cond_false, cond_true, m_alive k (show 2 ≤ 98 by omega) q1.1 q1.2, Option.bind_some, dec1]
    cases deadB C q
    · refine ⟨_, (m_wayL k q1.1 q1.2 7 0 (by omega) (by omega)).trans ?_, q0⟩
      have fx := it_fix k.2.2 (q := q) (s := mshl 1 (C 9 q)) (shl_in (by omega) (by omega) (by omega)) (by rw [pop_shl (by omega) (by omega)]; omega)
      have e := findS_add (p := p) (Int.toNat (C 0 0 - 1)) (7 - Int.toNat (C 0 0)) 0 _ fx
      rw [show Int.toNat (C 0 0 - 1) + 1 + (7 - Int.toNat (C 0 0)) = 7 by omega, show Int.toNat (C 0 0 - 1) + 1 = Int.toNat (C 0 0) by omega] at e
      show some (mup σ 92 0 0, findS C q p 7 0 (mshl 1 (C 9 q))) = _
      rw [e]; rfl
    · exact ⟨_, rfl, q0⟩)
theorem k_132 (Ln : Nat) : ck_132 Rel Ln := fun q _ => cok_v (fun C => bif inB q (C 2 0) then (bif deadB C q then -1000002 else itS C q (Int.toNat (C 0 0 - 1)) (mshl 1 (C 9 q))) else -1000001)
  (fun σ C ⟨h, _, hc⟩ => by
    have b := now_b hc
    rw [b_X_reach, x_isQuarrel c48 h (by omega) (by omega) (by omega)]
    simp only [Option.bind_some, dec0, dec1]
    cases hq : inB q (C 2 0)
    · exact ⟨σ, rfl, quiet_rfl _⟩
    have q1 := inB_t hq
    have k := good_X h (now_q hc hq)
    have w := k.2.2.1
    simp only [Bool.not_true, cond_false, cond_true, x_dead k (show 1 ≤ 98 by omega) q1.1 q1.2, Option.bind_some, dec0]
    cases deadB C q
    · rw [b_County_allReached _ _ _ _ _ k.1, minb_t q1.1 (by omega), cond_true, x9 k.2.1 q q1.1 q1.2, x_allR k (by omega) q1.1 q1.2 (Int.toNat (C 0 0 - 1)) 1 _ (by omega) (by omega)]
      exact ⟨σ, rfl, quiet_rfl _⟩
    · exact ⟨σ, rfl, quiet_rfl _⟩)
  (fun σ C ⟨_, h, hc⟩ => by
    have b := now_b hc
    have h := thr h
    rw [b_M_reach, m_isQuarrel h (by omega) (by omega) (by omega)]
    simp only [Option.bind_some, dec0, dec1]
    cases hq : inB q (C 2 0)
    · exact ⟨_, rfl, q0⟩
    have q1 := inB_t hq
    have k := good_M h (now_q hc hq)
    have w := k.2.2.1
    have w9 := k.2.2.2.2.2 q q1.1 q1.2
    simp only [Bool.not_true, cond_false, cond_true, m_alive k (show 2 ≤ 98 by omega) q1.1 q1.2, Option.bind_some, dec0]
    cases deadB C q
    · rw [m_reachBy k (by omega) q1.1 q1.2 (by omega) (by omega)]
      refine ⟨_, ?_, q0⟩
      have fx := it_fix k.2.2 (q := q) (s := mshl 1 (C 9 q)) (shl_in (by omega) (by omega) (by omega)) (by rw [pop_shl (by omega) (by omega)]; omega)
      have e := it_add C q (Int.toNat (C 0 0 - 1)) (7 - Int.toNat (C 0 0 - 1)) (mshl 1 (C 9 q))
      rw [show Int.toNat (C 0 0 - 1) + (7 - Int.toNat (C 0 0 - 1)) = Int.toNat 7 by omega, it_stay fx] at e
      rw [e]; rfl
    · exact ⟨_, rfl, q0⟩)
