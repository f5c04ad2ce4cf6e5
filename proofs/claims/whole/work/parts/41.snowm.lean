/-! snow: the model's loops and the call -/
theorem fac_in {c o s r : Int} (c0 : 0 ≤ c) (c1 : c ≤ 10) : 0 ≤ fac c o s r ∧ fac c o s r ≤ 10 := by
  unfold fac
  cases hasB o r
  · exact ⟨by show (0 : Int) ≤ 1; omega, by show (1 : Int) ≤ 10; omega⟩
  · cases hasB s r
    · exact ⟨by show 0 ≤ 10 - c; omega, by show 10 - c ≤ 10; omega⟩
    · exact ⟨c0, c1⟩
theorem z_step {z f : Int} {r : Nat} (z0 : 0 ≤ z) (z1 : z ≤ 10 ^ r) (f0 : 0 ≤ f) (f1 : f ≤ 10) : 0 ≤ z * f ∧ z * f ≤ 10 ^ (r + 1) := by
  rw [Int.pow_succ]
  exact ⟨Int.mul_nonneg z0 f0, Int.mul_le_mul z1 f1 f0 (by have := p10_0 r; omega)⟩
theorem m_snow78 {Ln : Nat} {C : Cty} (w : WF 12 C) {q p N c x o a b s : Int} (q0 : 0 ≤ q) (q1 : q < C 2 0) (N0 : 0 ≤ N) (N1 : N ≤ 60) (c0 : 0 ≤ c) (c1 : c ≤ 10) (a0 : 0 ≤ a) (a1 : a ≤ 10000000 * 200) (b0 : 0 ≤ b) (b1 : b ≤ 10000000 * 200) (s0 : 0 ≤ s) (s1 : s < 200) : ∀ (n : Nat) (r z : Int) (σ : mmSt) (E : Cty), rep 12 (cM (σ 96)) C → KM σ 98 E → E 1 0 = C 1 0 → E 2 0 = C 2 0 → (∀ j, r ≤ j → E 7 j = C 7 j) → r + n = C 1 0 → 0 ≤ r → 0 ≤ z → z ≤ 10 ^ Int.toNat r → ∃ σ', srun (lyT Ln) (99, 226, 78, [mR 92, mI q, mI p, mI N, mI c, mI x, mI o, mL a, mJ, mL b, mJ, mI s, mL z, mJ, mI r, mJ, mJ], [], σ) = srun (lyT Ln) (99, 226, 63, [mR 92, mI q, mI p, mI N, mI c, mI x, mI o, mL (bif livesB (yearsC (Int.toNat N) (gridL s 0 n r E)) q p then a + waysL c o s n r z else a), mJ, mL (b + waysL c o s n r z), mJ, mI (s + 1), mL (waysL c o s n r z), mJ, mI (C 1 0), mJ, mJ], [], σ') ∧ frM 98 σ σ' := by
  have wf := w.1
  intro n
  induction n with
  | zero =>
    intro r z σ E h k e1 e2 e7 e r0 z0 z1
    have t := p10_7 (Int.toNat r) (by omega)
    obtain ⟨σ1, ey, k1, f1⟩ := m_years (Ln := Ln) (show 6 ≤ 98 by omega) N0 (show N ≤ 100 by omega) k
    have y2 : q < yearsC (Int.toNat N) E 2 0 := by rw [years_nf _ _ (by omega) (by omega) (by omega), e2]; exact q1
    rw [b_M_snow_78, m1 h, decide_eq_true (show C 1 0 ≤ r by omega), cond_true, ey, Option.bind_some]
    simp only [m_isIn k1 (show 3 ≤ 98 by omega) q0 y2, Option.bind_some, dec0, mwl (show -9223372036854775808 ≤ a + z by omega) (show a + z < 9223372036854775808 by omega), mwl (show -9223372036854775808 ≤ b + z by omega) (show b + z < 9223372036854775808 by omega), Int.add_zero, mwl (show -9223372036854775808 ≤ a by omega) (show a < 9223372036854775808 by omega), mw (show -2147483648 ≤ s + 1 by omega) (show s + 1 < 2147483648 by omega)]
    refine ⟨σ1, ?_, f1⟩
    rw [show r = C 1 0 by omega]
    rw [gridL, waysL]
    cases livesB (yearsC (Int.toNat N) E) q p <;> rfl
  | succ n ih =>
    intro r z σ E h k e1 e2 e7 e r0 z0 z1
    have fi := fac_in (c := c) (o := o) (s := s) (r := r) c0 c1
    have zs := z_step z0 z1 fi.1 fi.2
    have t1 := p10_7 (Int.toNat r + 1) (by omega)
    have w7 := w.2.2.1 r r0 (by omega)
    have hb : E 1 0 ≤ 7 ∧ E 2 0 ≤ 5 := by omega
    have kC : KM σ 96 C := ⟨.inl rfl, h, w⟩
    have kS : KM (mup σ 98 (Int.toNat (11 + 3 * r + 2)) (C 7 r)) 98 E := by
      have := rep_upM (f := 7) (i := r) (v := C 7 r) hb (by omega) (by omega) r0 (show r < E 1 0 by omega) k.2.1
      rw [cup_same (e7 r (by omega))] at this
      exact ⟨k.1, this, k.2.2⟩
    have kT : KM (mup σ 98 (Int.toNat (11 + 3 * r + 2)) 0) 98 (cup E 7 r 0) := ⟨k.1, rep_upM (f := 7) (i := r) (v := 0) hb (by omega) (by omega) r0 (show r < E 1 0 by omega) k.2.1, WF_upd k.2.2 (.inr (.inr (.inl ⟨rfl, by omega, by omega⟩)))⟩
    have iS := ih (r + 1) (z * fac c o s r) _ E (rep_M_of (fun j => mup_ne (by omega)) h) kS e1 e2 (fun j hj => e7 j (by omega)) (by omega) (by omega) zs.1 (by rw [show Int.toNat (r + 1) = Int.toNat r + 1 by omega]; exact zs.2)
    have iT := ih (r + 1) (z * fac c o s r) _ (cup E 7 r 0) (rep_M_of (fun j => mup_ne (by omega)) h) kT (by rw [cup_nf (by omega)]; exact e1) (by rw [cup_nf (by omega)]; exact e2) (fun j hj => by rw [cup_ni (by omega)]; exact e7 j (by omega)) (by omega) (by omega) zs.1 (by rw [show Int.toNat (r + 1) = Int.toNat r + 1 by omega]; exact zs.2)
    rw [b_M_snow_78, m1 h, decide_eq_false (by omega), cond_false, m_has (by omega), Option.bind_some, gridL, waysL]
    simp (discharger := omega) only [dec0, dec1, m_has (show 1 ≤ 98 by omega), Option.bind_some, m_its2 kC (show 1 ≤ 98 by omega) r0 (show r < C 1 0 by omega), mw, minb_t, cond_true, mwl (show -9223372036854775808 ≤ 10 - c by omega) (show 10 - c < 9223372036854775808 by omega)]
    have m0 : fac c o s r = (bif hasB o r then (bif hasB s r then c else 10 - c) else 1) := rfl
    cases ho : hasB o r
    · rw [ho] at m0
      have m1' : fac c o s r = 1 := m0
      rw [m1'] at iS iT zs ⊢
      rw [mwl (z := z * 1) (by omega) (by omega)]
      cases hs : hasB s r
      · obtain ⟨σ', e', f'⟩ := iS
        exact ⟨σ', e', frM_trans (frM_up (by omega)) f'⟩
      · obtain ⟨σ', e', f'⟩ := iT
        exact ⟨σ', e', frM_trans (frM_up (by omega)) f'⟩
    · rw [ho] at m0
      cases hs : hasB s r
      · rw [hs] at m0
        have m1' : fac c o s r = 10 - c := m0
        rw [m1'] at iS iT zs ⊢
        rw [mwl (z := z * (10 - c)) (by omega) (by omega)]
        obtain ⟨σ', e', f'⟩ := iS
        exact ⟨σ', e', frM_trans (frM_up (by omega)) f'⟩
      · rw [hs] at m0
        have m1' : fac c o s r = c := m0
        rw [m1'] at iS iT zs ⊢
        rw [mwl (z := z * c) (by omega) (by omega)]
        obtain ⟨σ', e', f'⟩ := iT
        exact ⟨σ', e', frM_trans (frM_up (by omega)) f'⟩
theorem m_snow63 {Ln : Nat} {C : Cty} (w : WF 12 C) {q p N c x : Int} (q0 : 0 ≤ q) (q1 : q < C 2 0) (N0 : 0 ≤ N) (N1 : N ≤ 60) (c0 : 0 ≤ c) (c1 : c ≤ 10) : ∀ (n : Nat) (s a b : Int) (σ : mmSt) (v12 v14 : mmV), rep 12 (cM (σ 96)) C → s + n = barC C + 1 → 0 ≤ s → 0 ≤ a → a ≤ 10000000 * s → 0 ≤ b → b ≤ 10000000 * s → ∃ σ', srun (lyT Ln) (99, 226, 63, [mR 92, mI q, mI p, mI N, mI c, mI x, mI (barC C), mL a, mJ, mL b, mJ, mI s, v12, mJ, v14, mJ, mJ], [], σ) = srun (lyT Ln) (99, 226, 154, [mR 92, mI q, mI p, mI N, mI c, mI x, mI (barC C), mL (aboveL (thB C q p N) c (barC C) n s a), mJ, mL (aboveL (fun _ => true) c (barC C) n s b), mJ, mL (aboveL (thB C q p N) c (barC C) n s a), mJ, mL (aboveL (fun _ => true) c (barC C) n s b), mJ, mJ, mJ], [], σ') ∧ frM 98 σ σ' := by
  have wf := w.1
  have bi := bar_in w
  intro n
  induction n with
  | zero =>
    intro s a b σ v12 v14 h e s0 a0 a1 b0 b1
    rw [b_M_snow_63, decide_eq_true (by omega), cond_true]
    exact ⟨σ, rfl, frM_rfl _ _⟩
  | succ n ih =>
    intro s a b σ v12 v14 h e s0 a0 a1 b0 b1
    rw [b_M_snow_63, decide_eq_false (by omega), cond_false, dne, mw (by omega) (by omega), aboveL, aboveL]
    cases hs : subB (barC C) s
    · have hs' : decide (mand s (mxor (barC C) (-1)) = 0) = false := hs
      obtain ⟨σ2, e2, f2⟩ := ih (s + 1) a b σ v12 v14 h (by omega) (by omega) a0 (by omega) b0 (by omega)
      rw [hs']
      exact ⟨σ2, e2, f2⟩
    · have hs' : decide (mand s (mxor (barC C) (-1)) = 0) = true := hs
      have wi := w_in c0 c1 bi.2.1 bi.2.2 s0 (show s < 128 by omega) hs
      have ww := ways_w (c := c) (s := s) (show 0 ≤ C 1 0 by omega) (by omega) bi.1 s0 (by omega) hs
      obtain ⟨σ1, e1, k1, f1⟩ := m_lay (Ln := Ln) h w (show 1 ≤ 98 by omega)
      have h1 : rep 12 (cM (σ1 96)) C := rep_M_of (fun j => f1 96 j (by omega)) h
      obtain ⟨σ2, e2, f2⟩ := m_snow78 (Ln := Ln) (p := p) (x := x) (o := barC C) w q0 q1 N0 N1 c0 c1 a0 (show a ≤ 10000000 * 200 by omega) b0 (show b ≤ 10000000 * 200 by omega) s0 (show s < 200 by omega) (Int.toNat (C 1 0)) 0 1 σ1 (zt C) h1 k1 rfl rfl (fun _ _ => rfl) (by omega) (by omega) (by omega) (by decide)
      rw [ww] at e2
      have h2 : rep 12 (cM (σ2 96)) C := rep_M_of (fun j => f2 96 j (by omega)) h1
      rw [hs', Bool.not_true, cond_false, e1, Option.bind_some]
      have e2' : srun (lyT Ln) (99, 226, 78, [mR 92, mI q, mI p, mI N, mI c, mI x, mI (barC C), mL a, mJ, mL b, mJ, mI s, mL 1, mJ, mI 0, mJ, mJ], [], σ1) = srun (lyT Ln) (99, 226, 63, [mR 92, mI q, mI p, mI N, mI c, mI x, mI (barC C), mL (bif thB C q p N s then a + wC c (barC C) s else a), mJ, mL (b + wC c (barC C) s), mJ, mI (s + 1), mL (wC c (barC C) s), mJ, mI (C 1 0), mJ, mJ], [], σ2) := e2
      cases ht : thB C q p N s
      · obtain ⟨σ3, e3, f3⟩ := ih (s + 1) a (b + wC c (barC C) s) σ2 (mL (wC c (barC C) s)) (mI (C 1 0)) h2 (by omega) (by omega) a0 (by omega) (by omega) (by omega)
        rw [ht] at e2'
        exact ⟨σ3, e2'.trans e3, frM_trans f1 (frM_trans f2 f3)⟩
      · obtain ⟨σ3, e3, f3⟩ := ih (s + 1) (a + wC c (barC C) s) (b + wC c (barC C) s) σ2 (mL (wC c (barC C) s)) (mI (C 1 0)) h2 (by omega) (by omega) (by omega) (by omega) (by omega) (by omega)
        rw [ht] at e2'
        exact ⟨σ3, e2'.trans e3, frM_trans f1 (frM_trans f2 f3)⟩
theorem m_snow35 {Ln : Nat} {σ : mmSt} {C : Cty} (k : KM σ 96 C) {q p N c x : Int} : ∀ (n : Nat) (r s : Int), r + n = C 1 0 → 0 ≤ r → vI s → srun (lyT Ln) (99, 226, 35, [mR 92, mI q, mI p, mI N, mI c, mI x, mI s, mI r, mJ, mJ, mJ, mJ, mJ, mJ, mJ, mJ, mJ], [], σ) = srun (lyT Ln) (99, 226, 63, [mR 92, mI q, mI p, mI N, mI c, mI x, mI (setL (fun r => decide (0 < C 7 r)) n r s), mL 0, mJ, mL 0, mJ, mI 0, mJ, mJ, mJ, mJ, mJ], [], σ) := by
  have wf := k.2.2.1
  intro n
  induction n with
  | zero => intro r s e _ _; rw [b_M_snow_35, m1 k.2.1, decide_eq_true (by omega)]; rfl
  | succ n ih =>
    intro r s e r0 vs
    rw [b_M_snow_35, m1 k.2.1, decide_eq_false (by omega), cond_false, m_its2 k (by omega) r0 (by omega), Option.bind_some, mw (by omega) (by omega), mor_0 vs, setL]
    simp only [dle]
    rw [ih (r + 1) s (by omega) (by omega) vs, ih (r + 1) (mor s (mshl 1 r)) (by omega) (by omega) (mor_v _ _)]
    cases decide (0 < C 7 r) <;> rfl
theorem above_nn {P : Int → Bool} {c o : Int} (c0 : 0 ≤ c) (c1 : c ≤ 10) (o0 : 0 ≤ o) (o1 : o < 128) : ∀ (n : Nat) (s a : Int), 0 ≤ s → s + n ≤ 128 → 0 ≤ a → 0 ≤ aboveL P c o n s a := by
  intro n
  induction n with
  | zero => intro s a _ _ h; exact h
  | succ n ih =>
    intro s a s0 s1 h
    rw [aboveL]
    cases hs : subB o s
    · exact ih (s + 1) a (by omega) (by omega) h
    · have wi := w_in c0 c1 o0 o1 s0 (show s < 128 by omega) hs
      cases P s
      · exact ih (s + 1) a (by omega) (by omega) h
      · exact ih (s + 1) _ (by omega) (by omega) (by show 0 ≤ a + wC c o s; omega)
def snowC (C : Cty) (q p n c x : Int) : Int := if x = 0 then mwrapL (Int.tdiv (aboveL (thB C q p n) c (barC C) (Int.toNat (barC C + 1)) 0 0) (gcdF 48 (aboveL (thB C q p n) c (barC C) (Int.toNat (barC C + 1)) 0 0) (10 ^ Int.toNat (pop (barC C))))) else mwrapL (Int.tdiv (10 ^ Int.toNat (pop (barC C))) (gcdF 48 (aboveL (thB C q p n) c (barC C) (Int.toNat (barC C + 1)) 0 0) (10 ^ Int.toNat (pop (barC C)))))
theorem snow_g {C : Cty} (w : WF 12 C) {q p n c : Int} (c0 : 0 ≤ c) (c1 : c ≤ 10) : zeroF 48 (aboveL (thB C q p n) c (barC C) (Int.toNat (barC C + 1)) 0 0) (10 ^ Int.toNat (pop (barC C))) ∧ 0 < gcdF 48 (aboveL (thB C q p n) c (barC C) (Int.toNat (barC C + 1)) 0 0) (10 ^ Int.toNat (pop (barC C))) := by
  have bi := bar_in w
  have ps := pop_in bi.2.1 bi.2.2
  have a := above_nn (P := thB C q p n) c0 c1 bi.2.1 bi.2.2 (Int.toNat (barC C + 1)) 0 0 (by omega) (by omega) (by omega)
  have b := p10_0 (Int.toNat (pop (barC C)))
  have t := p10_7 (Int.toNat (pop (barC C))) (by omega)
  have z := zero_in 24 _ (10 ^ Int.toNat (pop (barC C))) a (by omega) (by
    have : ((2 ^ 24 : Nat) : Int) = 16777216 := by decide
    omega)
  exact ⟨z, gcd_pos 48 _ _ a (by omega) (.inr b) z⟩
theorem k_138 (Ln : Nat) : ck_138 Rel Ln := fun q p n c x _ _ _ _ _ => cok_v (fun C => bif inB q (C 2 0) && (inB p (C 0 0) && (btB 0 n 30 && (btB 0 c 10 && btB 0 x 1))) then snowC C q p n c x else -1000001)
  (fun σ C ⟨h, _, hc⟩ => by
    have b := now_b hc
    rw [b_X_snow, x_isQuarrel c48 h (by omega) (by omega) (by omega)]
    simp only [Option.bind_some, dec0, dec1, x_isParish c48 h b.1 b.2.1 (show 2 ≤ 98 by omega), x_within (show 1 ≤ 98 by omega)]
    cases hq : inB q (C 2 0)
    · exact ⟨σ, rfl, quiet_rfl _⟩
    cases hp : inB p (C 0 0)
    · exact ⟨σ, rfl, quiet_rfl _⟩
    cases hn : btB 0 n 30
    · exact ⟨σ, rfl, quiet_rfl _⟩
    cases hk : btB 0 c 10
    · exact ⟨σ, rfl, quiet_rfl _⟩
    cases hx : btB 0 x 1
    · exact ⟨σ, rfl, quiet_rfl _⟩
    have q1 := inB_t hq
    have n1 := btB_t hn
    have c1 := btB_t hk
    have w := good_W (now_q hc hq)
    have wf := w.1
    have bi := bar_in w
    have p7 := pow_7 b.2.2.1 b.2.2.2.1
    obtain ⟨σ1, e1, f1⟩ := x_snowL (Ln := Ln) (p := p) w q1.1 q1.2 n1.1 (show n ≤ 60 by omega) c1.1 c1.2 (show 7 ≤ 98 by omega) (2 ^ Int.toNat (C 1 0)) 0 0 σ mJ h (by omega) (by omega) (by omega) (by omega)
    have hA : aboveL (thB C q p n) c (barC C) (2 ^ Int.toNat (C 1 0)) 0 0 = aboveL (thB C q p n) c (barC C) (Int.toNat (barC C + 1)) 0 0 := by
      have bo := bi.1
      unfold inP at bo
      have e : 2 ^ Int.toNat (C 1 0) = Int.toNat (barC C + 1) + (2 ^ Int.toNat (C 1 0) - Int.toNat (barC C + 1)) := by omega
      rw [e, above_add, above_tail bi.2.1 bi.2.2 _ _ _ (by omega) (by omega)]
    rw [hA] at e1
    have h1 : rep 12 (cX σ1 48) C := rep_X48 (fun b j _ _ => f1 b j (by omega)) h
    have sg := snow_g (q := q) (p := p) (n := n) w c1.1 c1.2
    simp only [Bool.not_true, cond_false, cond_true]
    rw [b_Seer_snowyCases, x_bars h w (by omega), Option.bind_some]
    simp only [e1, Option.bind_some, x_all h1 w (show 2 ≤ 98 by omega)]
    rw [b_X_commonDivisor, x_gcdL (by omega) 200 0 _ _ _ (by omega) (by omega), show 200 = 48 + 152 from rfl, gcd_more 48 152 _ _ sg.1, Option.bind_some]
    refine ⟨σ1, ?_, fr_quiet f1⟩
    simp only [dne, mlc0, decide_eq_false (show ¬ gcdF 48 (aboveL (thB C q p n) c (barC C) (Int.toNat (barC C + 1)) 0 0) (10 ^ Int.toNat (pop (barC C))) = 0 by omega), Bool.not_false, cond_true]
    show _ = some (σ1, snowC C q p n c x)
    unfold snowC
    by_cases cx : x = 0
    · rw [decide_eq_true cx, if_pos cx]; rfl
    · rw [decide_eq_false cx, if_neg cx]; rfl)
  (fun σ C ⟨_, h, hc⟩ => by
    have b := now_b hc
    have h := thr h
    rw [b_M_snow, m_isQuarrel h (by omega) (by omega) (by omega)]
    simp only [Option.bind_some, dec0, dec1, m_isParish h b.1 b.2.1 (show 2 ≤ 98 by omega), m_in (show 1 ≤ 98 by omega)]
    cases hq : inB q (C 2 0)
    · exact ⟨_, rfl, q0⟩
    cases hp : inB p (C 0 0)
    · exact ⟨_, rfl, q0⟩
    cases hn : btB 0 n 30
    · exact ⟨_, rfl, q0⟩
    cases hk : btB 0 c 10
    · exact ⟨_, rfl, q0⟩
    cases hx : btB 0 x 1
    · exact ⟨_, rfl, q0⟩
    have q1 := inB_t hq
    have n1 := btB_t hn
    have c1 := btB_t hk
    have w := good_W (now_q hc hq)
    have wf := w.1
    have bi := bar_in w
    have sg := snow_g (q := q) (p := p) (n := n) w c1.1 c1.2
    obtain ⟨σ1, e1, f1⟩ := m_snow63 (Ln := Ln) (p := p) (x := x) w q1.1 q1.2 n1.1 (show n ≤ 60 by omega) c1.1 c1.2 (Int.toNat (barC C + 1)) 0 0 0 (mup σ 92 0 0) mJ mJ h (by omega) (by omega) (by omega) (by omega) (by omega) (by omega)
    rw [bel_all c1.1 c1.2 bi.2.1 bi.2.2] at e1
    have e0 := m_snow35 (Ln := Ln) (⟨.inl rfl, h, w⟩ : KM (mup σ 92 0 0) 96 C) (q := q) (p := p) (N := n) (c := c) (x := x) (Int.toNat (C 1 0)) 0 0 (by omega) (by omega) v0
    have e2 := m_gcdL (Ln := Ln) (σ := σ1) (q := q) (p := p) (N := n) (c := c) (w := x) (o := barC C) (a := aboveL (thB C q p n) c (barC C) (Int.toNat (barC C + 1)) 0 0) (b := 10 ^ Int.toNat (pop (barC C))) 48 _ _ mJ sg.1 sg.2
    simp only [Bool.not_true, cond_false, cond_true]
    exact ⟨σ1, e0.trans (e1.trans e2), quiet_trans q0 (frM_quiet f1)⟩)
