/-! snow: the common divisor -/
def gcdF : Nat → Int → Int → Int
  | 0, x, _ => x
  | n + 1, x, y => if y = 0 then x else gcdF n y (Int.tmod x y)
def zeroF : Nat → Int → Int → Prop
  | 0, _, y => y = 0
  | n + 1, x, y => y = 0 ∨ zeroF n y (Int.tmod x y)
theorem gcd_0 : ∀ (n : Nat) (x : Int), gcdF n x 0 = x
  | 0, _ => rfl
  | n + 1, x => by rw [gcdF, if_pos rfl]
theorem zero_0 : ∀ (n : Nat) (x : Int), zeroF n x 0
  | 0, _ => rfl
  | _ + 1, _ => .inl rfl
theorem gcd_more : ∀ (n m : Nat) (x y : Int), zeroF n x y → gcdF (n + m) x y = gcdF n x y
  | 0, m, x, y, h => by
    have h : y = 0 := h
    rw [h, gcd_0, gcd_0]
  | n + 1, m, x, y, h => by
    rw [show n + 1 + m = (n + m) + 1 by omega, gcdF, gcdF]
    by_cases c : y = 0
    · rw [if_pos c, if_pos c]
    · rw [if_neg c, if_neg c]
      rcases h with h | h
      · exact absurd h c
      · exact gcd_more n m y _ h
theorem zero_mono : ∀ (n m : Nat) (x y : Int), zeroF n x y → zeroF (n + m) x y
  | 0, m, x, y, h => by
    have h : y = 0 := h
    rw [h]; exact zero_0 _ _
  | n + 1, m, x, y, h => by
    rw [show n + 1 + m = (n + m) + 1 by omega]
    rcases h with h | h
    · exact .inl h
    · exact .inr (zero_mono n m y _ h)
theorem tmod_half {x y : Int} (x0 : 0 ≤ x) (y0 : 0 < y) (h : y ≤ x) : 2 * Int.tmod x y < x := by
  rw [Int.tmod_eq_emod_of_nonneg x0]
  have a := Int.emod_add_mul_ediv x y
  have b := Int.emod_lt_of_pos x y0
  have c := Int.emod_nonneg x (show y ≠ 0 by omega)
  have d : 1 ≤ x / y := by
    have := Int.le_ediv_of_mul_le (c := y) (a := 1) (b := x) y0 (by omega)
    exact this
  have e : y * 1 ≤ y * (x / y) := Int.mul_le_mul_of_nonneg_left d (by omega)
  omega
theorem zero_in : ∀ (m : Nat) (x y : Int), 0 ≤ x → 0 ≤ y → y < ((2 ^ m : Nat) : Int) → zeroF (2 * m) x y := by
  intro m
  induction m with
  | zero =>
    intro x y x0 y0 h
    have : y = 0 := by
      have : ((2 ^ 0 : Nat) : Int) = 1 := rfl
      omega
    exact this
  | succ m ih =>
    intro x y x0 y0 h
    rw [show 2 * (m + 1) = (2 * m + 1) + 1 by omega]
    by_cases c : y = 0
    · exact .inl c
    · right
      have t := tmod_in x0 (show 0 < y by omega)
      by_cases c2 : Int.tmod x y = 0
      · exact .inl c2
      · right
        have u := tmod_in y0 (show 0 < Int.tmod x y by omega)
        have v := tmod_half y0 (show 0 < Int.tmod x y by omega) (by omega)
        refine ih _ _ t.1 u.1 ?_
        have : ((2 ^ (m + 1) : Nat) : Int) = 2 * ((2 ^ m : Nat) : Int) := by rw [Nat.pow_succ]; omega
        omega
theorem gcd_pos : ∀ (n : Nat) (x y : Int), 0 ≤ x → 0 ≤ y → (0 < x ∨ 0 < y) → zeroF n x y → 0 < gcdF n x y
  | 0, x, y, _, _, h, z => by
    have z : y = 0 := z
    show 0 < x
    omega
  | n + 1, x, y, x0, y0, h, z => by
    rw [gcdF]
    by_cases c : y = 0
    · rw [if_pos c]; omega
    · rw [if_neg c]
      rcases z with z | z
      · exact absurd z c
      · exact gcd_pos n y _ y0 (tmod_in x0 (show 0 < y by omega)).1 (.inl (by omega)) z
theorem x_gcdL {Ln : Nat} {σ : mmSt} {u v : Int} {D : Nat} (hD : 1 ≤ D) : ∀ (n : Nat) (z x y : Int) (w : mmV), z + n = 200 → 0 ≤ z → srun (lyT Ln) (D, 154, 6, [mL u, mJ, mL v, mJ, mL x, mJ, mL y, mJ, mI z, w, mJ], [], σ) = some (σ, gcdF n x y) := by
  obtain ⟨d, rfl⟩ := Nat.exists_eq_add_of_le' hD
  intro n
  induction n with
  | zero => intro z x y w e _; rw [b_X_commonDivisor_6, decide_eq_true (show 200 ≤ z by omega)]; rfl
  | succ n ih =>
    intro z x y w e z0
    rw [b_X_commonDivisor_6, decide_eq_false (show ¬ 200 ≤ z by omega), cond_false, mlc0, dne, gcdF]
    by_cases c : y = 0
    · rw [decide_eq_true c, if_pos c]; rfl
    · rw [decide_eq_false c, if_neg c, cond_false, Bool.not_false, cond_true, mw (by omega) (by omega)]
      exact ih _ _ _ _ (by omega) (by omega)
theorem m_gcdL {Ln : Nat} {σ : mmSt} {q p N c w o a b : Int} : ∀ (n : Nat) (x y : Int) (v : mmV), zeroF n x y → 0 < gcdF n x y → srun (lyT Ln) (99, 226, 154, [mR 92, mI q, mI p, mI N, mI c, mI w, mI o, mL a, mJ, mL b, mJ, mL x, mJ, mL y, mJ, v, mJ], [], σ) = some (σ, if w = 0 then mwrapL (Int.tdiv a (gcdF n x y)) else mwrapL (Int.tdiv b (gcdF n x y))) := by
  have fin : ∀ (x : Int) (v : mmV), 0 < x → srun (lyT Ln) (99, 226, 154, [mR 92, mI q, mI p, mI N, mI c, mI w, mI o, mL a, mJ, mL b, mJ, mL x, mJ, mL 0, mJ, v, mJ], [], σ) = some (σ, if w = 0 then mwrapL (Int.tdiv a x) else mwrapL (Int.tdiv b x)) := by
    intro x v hx
    rw [b_M_snow_154, mlc0, decide_eq_true (show (0 : Int) = 0 from rfl), cond_true, decide_eq_true (show ¬ x = 0 by omega)]
    by_cases cw : w = 0
    · rw [decide_eq_false (show ¬ ¬ w = 0 by omega), if_pos cw]; rfl
    · rw [decide_eq_true cw, if_neg cw]; rfl
  intro n
  induction n with
  | zero =>
    intro x y v z g
    have z : y = 0 := z
    subst z
    exact fin x v g
  | succ n ih =>
    intro x y v z g
    rw [gcdF] at g ⊢
    by_cases cy : y = 0
    · subst cy
      rw [if_pos rfl] at g ⊢
      exact fin x v g
    · rw [if_neg cy] at g ⊢
      rw [b_M_snow_154, mlc0, decide_eq_false cy, cond_false, decide_eq_true cy, cond_true]
      rcases z with z | z
      · exact absurd z cy
      · exact ih _ _ _ z g
/-! the model's weights -/
def fac (c o s r : Int) : Int := bif hasB o r then (bif hasB s r then c else 10 - c) else 1
def waysL (c o s : Int) : Nat → Int → Int → Int
  | 0, _, z => z
  | n + 1, r, z => waysL c o s n (r + 1) (z * fac c o s r)
def cA (o s : Int) : Nat → Int → Nat
  | 0, _ => 0
  | n + 1, r => cA o s n (r + 1) + (bif hasB o r && hasB s r then 1 else 0)
def cB (o s : Int) : Nat → Int → Nat
  | 0, _ => 0
  | n + 1, r => cB o s n (r + 1) + (bif hasB o r && !hasB s r then 1 else 0)
theorem ways_eq {c o s : Int} : ∀ (n : Nat) (r z : Int), waysL c o s n r z = z * (c ^ cA o s n r * (10 - c) ^ cB o s n r) := by
  intro n
  induction n with
  | zero => intro r z; show z = z * (c ^ 0 * (10 - c) ^ 0); rw [Int.pow_zero, Int.pow_zero]; omega
  | succ n ih =>
    intro r z
    rw [waysL, ih, cA, cB]
    unfold fac
    cases hasB o r
    · show z * 1 * (c ^ cA o s n (r + 1) * (10 - c) ^ cB o s n (r + 1)) = z * (c ^ (cA o s n (r + 1) + 0) * (10 - c) ^ (cB o s n (r + 1) + 0))
      rw [Int.mul_one, Nat.add_zero, Nat.add_zero]
    · cases hasB s r
      · show z * (10 - c) * (c ^ cA o s n (r + 1) * (10 - c) ^ cB o s n (r + 1)) = z * (c ^ (cA o s n (r + 1) + 0) * (10 - c) ^ (cB o s n (r + 1) + 1))
        rw [Nat.add_zero, Int.pow_succ, Int.mul_assoc z, ← Int.mul_assoc (10 - c), Int.mul_comm (10 - c) (c ^ cA o s n (r + 1)), Int.mul_assoc (c ^ cA o s n (r + 1)), Int.mul_comm (10 - c)]
      · show z * c * (c ^ cA o s n (r + 1) * (10 - c) ^ cB o s n (r + 1)) = z * (c ^ (cA o s n (r + 1) + 1) * (10 - c) ^ (cB o s n (r + 1) + 0))
        rw [Nat.add_zero, Int.pow_succ, Int.mul_assoc z, ← Int.mul_assoc c, Int.mul_comm c (c ^ cA o s n (r + 1))]
        rfl
theorem cABF : ∀ (o s : Fin 128), Nat.beq (Nat.land s.val o.val) s.val = true → (cA (o.val : Int) (s.val : Int) 7 0 : Int) = pop (s.val : Int) ∧ (cB (o.val : Int) (s.val : Int) 7 0 : Int) = pop (mand (o.val : Int) (mxor (s.val : Int) (-1))) := by decide +kernel
theorem hasF : ∀ (o : Fin 128) (r : Fin 7), o.val < 2 ^ r.val → hasB (o.val : Int) (r.val : Int) = false := by decide +kernel
theorem ways_one {c o s : Int} : ∀ (n : Nat) (r z : Int), (∀ j, r ≤ j → j < r + n → hasB o j = false) → waysL c o s n r z = z := by
  intro n
  induction n with
  | zero => intro r z _; rfl
  | succ n ih =>
    intro r z h
    rw [waysL, ih _ _ (fun j a b => h j (by omega) (by omega))]
    unfold fac
    rw [h r (by omega) (by omega)]
    exact Int.mul_one z
theorem ways_add {c o s : Int} : ∀ (n m : Nat) (r z : Int), waysL c o s (n + m) r z = waysL c o s m (r + n) (waysL c o s n r z) := by
  intro n
  induction n with
  | zero => intro m r z; rw [Nat.zero_add, show r + ((0 : Nat) : Int) = r by omega]; rfl
  | succ n ih =>
    intro m r z
    rw [show n + 1 + m = (n + m) + 1 by omega, waysL, waysL, ih, show r + 1 + (n : Int) = r + ((n + 1 : Nat) : Int) by omega]
theorem ways_w {c o s M : Int} (M0 : 0 ≤ M) (M7 : M ≤ 7) (ho : inP M o) (s0 : 0 ≤ s) (s1 : s < 128) (h : subB o s = true) : waysL c o s (Int.toNat M) 0 1 = wC c o s := by
  have oi := inP_7 M0 M7 ho
  have e := subF ⟨Int.toNat o, by omega⟩ ⟨Int.toNat s, by omega⟩
  rw [Int.toNat_of_nonneg oi.1, Int.toNat_of_nonneg s0] at e
  have hb := e.symm.trans h
  have ab := cABF ⟨Int.toNat o, by omega⟩ ⟨Int.toNat s, by omega⟩ hb
  rw [Int.toNat_of_nonneg oi.1, Int.toNat_of_nonneg s0] at ab
  have t : waysL c o s 7 0 1 = waysL c o s (Int.toNat M) 0 1 := by
    rw [show 7 = Int.toNat M + (7 - Int.toNat M) by omega, ways_add, ways_one]
    intro j a b
    have hf := hasF ⟨Int.toNat o, by omega⟩ ⟨Int.toNat j, by omega⟩
    rw [Int.toNat_of_nonneg oi.1, Int.toNat_of_nonneg (by omega)] at hf
    refine hf ?_
    show Int.toNat o < 2 ^ Int.toNat j
    have l : 2 ^ Int.toNat M ≤ 2 ^ Int.toNat j := Nat.pow_le_pow_right (by decide) (by omega)
    unfold inP at ho
    omega
  rw [← t, ways_eq, Int.one_mul]
  unfold wC
  rw [← ab.1, ← ab.2, Int.toNat_natCast, Int.toNat_natCast]
