/-! county: the class's reader -/
def PD (D : Cty) : Prop := (2 ≤ D 0 0 ∧ D 0 0 ≤ 7 ∧ 0 ≤ D 1 0 ∧ D 1 0 ≤ 7 ∧ 0 ≤ D 2 0 ∧ D 2 0 ≤ 5 ∧ D 3 0 = 0) ∧
  (∀ p : Int, 0 ≤ p → p < 7 → 0 ≤ D 4 p ∧ D 4 p ≤ 99) ∧
  (∀ r : Int, 0 ≤ r → r < D 1 0 → 0 ≤ D 5 r ∧ D 5 r < D 0 0 ∧ 0 ≤ D 6 r ∧ D 6 r < D 0 0 ∧ D 5 r ≠ D 6 r ∧ 0 ≤ D 7 r ∧ D 7 r ≤ 9) ∧
  (∀ q : Int, 0 ≤ q → q < D 2 0 → 1 ≤ D 8 q ∧ D 8 q ≤ 5 ∧ 0 ≤ D 9 q ∧ D 9 q < D 0 0 ∧ 0 ≤ D 10 q ∧ D 10 q ≤ 9 ∧ 0 ≤ D 11 q ∧ D 11 q < D 0 0) ∧ ∀ p : Int, D 0 0 ≤ p → p < 7 → D 4 p = 0
theorem PD_good {D : Cty} (h : PD D) (h1 : 1 ≤ D 1 0) (h2 : 1 ≤ D 2 0) : Good D := by
  obtain ⟨a, b, c, d, e⟩ := h
  exact ⟨⟨by omega, b, c, d⟩, by omega, by omega, e⟩
def lawD (v w : Int) : Cty := fun f i => if f = 0 then v else if f = 4 then (if i < v then w else 0) else 0
def addR (D : Cty) (a b g : Int) : Cty := cup (cup (cup (cup D 5 (D 1 0) a) 6 (D 1 0) b) 7 (D 1 0) g) 1 0 (D 1 0 + 1)
def addQ (D : Cty) (k a z b : Int) : Cty := cup (cup (cup (cup (cup D 8 (D 2 0) k) 9 (D 2 0) a) 10 (D 2 0) z) 11 (D 2 0) b) 2 0 (D 2 0 + 1)
theorem PD_law {v w : Int} (v0 : 2 ≤ v) (v1 : v ≤ 7) (w0 : 0 ≤ w) (w1 : w ≤ 9) : PD (lawD v w) := by
  refine ⟨⟨v0, v1, Int.le_refl _, by show (0 : Int) ≤ 7; omega, Int.le_refl _, by show (0 : Int) ≤ 5; omega, rfl⟩, fun p p0 p1 => ?_, fun r r0 r1 => ?_, fun q q0 q1 => ?_, fun p p0 p1 => ?_⟩
  · show 0 ≤ (if p < v then w else 0) ∧ (if p < v then w else 0) ≤ 99
    split <;> omega
  · have : r < 0 := r1
    omega
  · have : q < 0 := q1
    omega
  · have : v ≤ p := p0
    show (if p < v then w else 0) = 0
    rw [if_neg (by omega)]
theorem PD_road {D : Cty} (h : PD D) (h7 : D 1 0 < 7) {a b g : Int} (a0 : 0 ≤ a) (a1 : a < D 0 0) (b0 : 0 ≤ b) (b1 : b < D 0 0) (ab : b ≠ a) (g0 : 0 ≤ g) (g1 : g ≤ 9) : PD (addR D a b g) := by
  obtain ⟨w0, w1, w2, w3, w4⟩ := h
  unfold addR
  unfold PD
  simp (discharger := omega) only [cup_eq, cup_nf]
  refine ⟨by omega, w1, fun r r0 r1 => ?_, w3, w4⟩
  simp only [cup_ap]
  by_cases c : r = D 1 0
  · subst c
    simp
    omega
  · have := w2 r r0 (by omega)
    simp [c]
    omega
theorem PD_quarrel {D : Cty} (h : PD D) (h5 : D 2 0 < 5) {k a z b : Int} (k0 : 1 ≤ k) (k1 : k ≤ 5) (a0 : 0 ≤ a) (a1 : a < D 0 0) (z0 : 1 ≤ z) (z1 : z ≤ 9) (b0 : 0 ≤ b) (b1 : b < D 0 0) : PD (addQ D k a z b) := by
  obtain ⟨w0, w1, w2, w3, w4⟩ := h
  unfold addQ
  unfold PD
  simp (discharger := omega) only [cup_eq, cup_nf]
  refine ⟨by omega, w1, w2, fun r r0 r1 => ?_, w4⟩
  simp only [cup_ap]
  by_cases c : r = D 2 0
  · subst c
    simp
    omega
  · have := w3 r r0 (by omega)
    simp [c]
    omega
theorem ex_ok {B : Int → Int} {c : Int} {s : Int × Int} (h : (exS B c s).1 = 0) : s.1 = 0 := by
  by_cases q : s.1 = 0
  · exact q
  · rw [ex_bad q] at h; exact h
theorem nu_ok {B : Int → Int} {n lo hi bar : Int} {s : Int × Int} (h : (nuS B n lo hi bar s).2.1 = 0) : s.1 = 0 ∧ lo ≤ (nuS B n lo hi bar s).1 ∧ (nuS B n lo hi bar s).1 ≤ hi ∧ (nuS B n lo hi bar s).1 ≠ bar := by
  by_cases q : s.1 = 0
  · unfold nuS at h ⊢
    rw [if_pos q] at h ⊢
    by_cases c : fig B n s.2 = 1 ∨ fig B n s.2 = 2
    · rw [if_pos c] at h ⊢
      by_cases g : lo ≤ numV B n s.2 ∧ numV B n s.2 ≤ hi ∧ numV B n s.2 ≠ bar
      · rw [if_pos g]; exact ⟨q, g⟩
      · rw [if_neg g] at h
        have : (2 : Int) = 0 := h
        omega
    · rw [if_neg c] at h
      have : (1 : Int) = 0 := h
      omega
  · rw [nu_bad q] at h; exact absurd h q
def lawS (B : Int → Int) (n : Int) : (Int × Int) × Cty := (exS B 59 (nuS B n 0 9 (-1000000) (exS B 44 (nuS B n 2 7 (-1000000) (exS B 99 (0, 0))).2)).2, lawD (nuS B n 2 7 (-1000000) (exS B 99 (0, 0))).1 (nuS B n 0 9 (-1000000) (exS B 44 (nuS B n 2 7 (-1000000) (exS B 99 (0, 0))).2)).1)
def rdU (B : Int → Int) (n P : Int) (s : Int × Int) : Int × (Int × Int) := nuS B n 0 (P - 1) (-1000000) (exS B 114 s)
def rdW (B : Int → Int) (n P : Int) (s : Int × Int) : Int × (Int × Int) := nuS B n 0 (P - 1) (rdU B n P s).1 (exS B 44 (rdU B n P s).2)
def rdG (B : Int → Int) (n P : Int) (s : Int × Int) : Int × (Int × Int) := nuS B n 0 9 (-1000000) (exS B 44 (rdW B n P s).2)
def rdE (B : Int → Int) (n P : Int) (s : Int × Int) : Int × Int := exS B 59 (rdG B n P s).2
def rd0 (B : Int → Int) (D : Cty) (s : Int × Int) : Int × Int := if s.1 = 0 ∧ B s.2 = 114 ∧ D 1 0 = 7 then (3, s.2) else s
def roadS (B : Int → Int) (n : Int) (D : Cty) (s : Int × Int) : (Int × Int) × Cty := (rdE B n (D 0 0) (rd0 B D s), if (rdE B n (D 0 0) (rd0 B D s)).1 = 0 then addR D (rdU B n (D 0 0) (rd0 B D s)).1 (rdW B n (D 0 0) (rd0 B D s)).1 (rdG B n (D 0 0) (rd0 B D s)).1 else D)
def quA (B : Int → Int) (n P : Int) (s : Int × Int) : Int × (Int × Int) := nuS B n 0 (P - 1) (-1000000) (soS B s)
def quZ (B : Int → Int) (n P : Int) (s : Int × Int) : Int × (Int × Int) := nuS B n 1 9 (-1000000) (exS B 44 (quA B n P s).2)
def quB (B : Int → Int) (n P : Int) (s : Int × Int) : Int × (Int × Int) := nuS B n 0 (P - 1) (-1000000) (exS B 44 (quZ B n P s).2)
def quE (B : Int → Int) (n P : Int) (s : Int × Int) : Int × Int := exS B 59 (quB B n P s).2
def qu0 (B : Int → Int) (D : Cty) (s : Int × Int) : Int × Int := if s.1 = 0 ∧ kdC (B s.2) ≠ 0 ∧ D 2 0 = 5 then (3, s.2) else s
def quarS (B : Int → Int) (n : Int) (D : Cty) (s : Int × Int) : (Int × Int) × Cty := (quE B n (D 0 0) (qu0 B D s), if (quE B n (D 0 0) (qu0 B D s)).1 = 0 then addQ D (kdC (B s.2)) (quA B n (D 0 0) (qu0 B D s)).1 (quZ B n (D 0 0) (qu0 B D s)).1 (quB B n (D 0 0) (qu0 B D s)).1 else D)
theorem road_ok {B : Int → Int} {n : Int} {D : Cty} {s : Int × Int} (h : (roadS B n D s).1.1 = 0) (pd : PD D) : s.1 = 0 ∧ B s.2 = 114 ∧ D 1 0 < 7 ∧ PD (roadS B n D s).2 ∧ (roadS B n D s).2 1 0 = D 1 0 + 1 := by
  have h7 : (rdE B n (D 0 0) (rd0 B D s)).1 = 0 := h
  have h6 := nu_ok (B := B) (n := n) (lo := 0) (hi := 9) (bar := -1000000) (ex_ok h7)
  have h4 := nu_ok (B := B) (n := n) (lo := 0) (hi := D 0 0 - 1) (bar := (rdU B n (D 0 0) (rd0 B D s)).1) (ex_ok h6.1)
  have h2 := nu_ok (B := B) (n := n) (lo := 0) (hi := D 0 0 - 1) (bar := -1000000) (ex_ok h4.1)
  have h1 := ex_ok h2.1
  have w := pd.1
  have hs : s.1 = 0 ∧ ¬ (B s.2 = 114 ∧ D 1 0 = 7) ∧ rd0 B D s = s := by
    unfold rd0 at h1 ⊢
    by_cases c : s.1 = 0 ∧ B s.2 = 114 ∧ D 1 0 = 7
    · rw [if_pos c] at h1
      have : (3 : Int) = 0 := h1
      omega
    · rw [if_neg c] at h1 ⊢
      exact ⟨h1, fun q => c ⟨h1, q⟩, rfl⟩
  have hB : B s.2 = 114 := by
    have e := h2.1
    rw [hs.2.2] at e
    unfold exS at e
    rw [if_pos hs.1] at e
    by_cases c : B s.2 = 114
    · exact c
    · rw [if_neg c] at e
      have : (1 : Int) = 0 := e
      omega
  have hr : D 1 0 < 7 := by
    have := hs.2.1
    omega
  have e2 : (roadS B n D s).2 = addR D (rdU B n (D 0 0) (rd0 B D s)).1 (rdW B n (D 0 0) (rd0 B D s)).1 (rdG B n (D 0 0) (rd0 B D s)).1 := if_pos h7
  have a1 : 0 ≤ (rdU B n (D 0 0) (rd0 B D s)).1 ∧ (rdU B n (D 0 0) (rd0 B D s)).1 ≤ D 0 0 - 1 := ⟨h2.2.1, h2.2.2.1⟩
  have a2 : 0 ≤ (rdW B n (D 0 0) (rd0 B D s)).1 ∧ (rdW B n (D 0 0) (rd0 B D s)).1 ≤ D 0 0 - 1 ∧ (rdW B n (D 0 0) (rd0 B D s)).1 ≠ (rdU B n (D 0 0) (rd0 B D s)).1 := ⟨h4.2.1, h4.2.2.1, h4.2.2.2⟩
  have a3 : 0 ≤ (rdG B n (D 0 0) (rd0 B D s)).1 ∧ (rdG B n (D 0 0) (rd0 B D s)).1 ≤ 9 := ⟨h6.2.1, h6.2.2.1⟩
  refine ⟨hs.1, hB, hr, ?_, ?_⟩
  · rw [e2]; exact PD_road pd hr a1.1 (by omega) a2.1 (by omega) a2.2.2 a3.1 a3.2
  · rw [e2]; unfold addR; rw [cup_eq]
theorem quar_ok {B : Int → Int} {n : Int} {D : Cty} {s : Int × Int} (h : (quarS B n D s).1.1 = 0) (pd : PD D) : s.1 = 0 ∧ kdC (B s.2) ≠ 0 ∧ D 2 0 < 5 ∧ PD (quarS B n D s).2 ∧ (quarS B n D s).2 2 0 = D 2 0 + 1 ∧ (quarS B n D s).2 1 0 = D 1 0 := by
  have h7 : (quE B n (D 0 0) (qu0 B D s)).1 = 0 := h
  have h6 := nu_ok (B := B) (n := n) (lo := 0) (hi := D 0 0 - 1) (bar := -1000000) (ex_ok h7)
  have h4 := nu_ok (B := B) (n := n) (lo := 1) (hi := 9) (bar := -1000000) (ex_ok h6.1)
  have h2 := nu_ok (B := B) (n := n) (lo := 0) (hi := D 0 0 - 1) (bar := -1000000) (ex_ok h4.1)
  have w := pd.1
  have h1 : (qu0 B D s).1 = 0 ∧ kdC (B (qu0 B D s).2) ≠ 0 := by
    have e := h2.1
    unfold soS at e
    by_cases c : (qu0 B D s).1 = 0
    · rw [if_pos c] at e
      by_cases k : kdC (B (qu0 B D s).2) = 0
      · rw [if_pos k] at e
        have : (1 : Int) = 0 := e
        omega
      · exact ⟨c, k⟩
    · rw [if_neg c] at e
      exact absurd e c
  have hs : s.1 = 0 ∧ ¬ (kdC (B s.2) ≠ 0 ∧ D 2 0 = 5) ∧ qu0 B D s = s := by
    have h1 := h1.1
    unfold qu0 at h1 ⊢
    by_cases c : s.1 = 0 ∧ kdC (B s.2) ≠ 0 ∧ D 2 0 = 5
    · rw [if_pos c] at h1
      have : (3 : Int) = 0 := h1
      omega
    · rw [if_neg c] at h1 ⊢
      exact ⟨h1, fun q => c ⟨h1, q⟩, rfl⟩
  have hk : kdC (B s.2) ≠ 0 := by
    have := h1.2
    rw [hs.2.2] at this
    exact this
  have hr : D 2 0 < 5 := by
    have := hs.2.1
    by_cases c : D 2 0 = 5
    · exact absurd ⟨hk, c⟩ this
    · omega
  have ki := kd_in (B s.2)
  have e2 : (quarS B n D s).2 = addQ D (kdC (B s.2)) (quA B n (D 0 0) (qu0 B D s)).1 (quZ B n (D 0 0) (qu0 B D s)).1 (quB B n (D 0 0) (qu0 B D s)).1 := if_pos h7
  have a1 : 0 ≤ (quA B n (D 0 0) (qu0 B D s)).1 ∧ (quA B n (D 0 0) (qu0 B D s)).1 ≤ D 0 0 - 1 := ⟨h2.2.1, h2.2.2.1⟩
  have a2 : 1 ≤ (quZ B n (D 0 0) (qu0 B D s)).1 ∧ (quZ B n (D 0 0) (qu0 B D s)).1 ≤ 9 := ⟨h4.2.1, h4.2.2.1⟩
  have a3 : 0 ≤ (quB B n (D 0 0) (qu0 B D s)).1 ∧ (quB B n (D 0 0) (qu0 B D s)).1 ≤ D 0 0 - 1 := ⟨h6.2.1, h6.2.2.1⟩
  refine ⟨hs.1, hk, hr, ?_, ?_, ?_⟩
  · rw [e2]; exact PD_quarrel pd hr (by omega) (by omega) a1.1 (by omega) a2.1 a2.2 a3.1 (by omega)
  · rw [e2]; unfold addQ; rw [cup_eq]
  · rw [e2]; unfold addQ; rw [cup_nf (by omega), cup_nf (by omega), cup_nf (by omega), cup_nf (by omega), cup_nf (by omega)]
/-- what the class's reader changes -/
def frD (σ σ' : mmSt) : Prop := ∀ b j, ¬ ((b = 9 ∧ (j = 4 ∨ j = 5)) ∨ (10 ≤ b ∧ b ≤ 19)) → σ' b j = σ b j
theorem frD_trans {a b c : mmSt} (h : frD a b) (k : frD b c) : frD a c := fun x j q => (k x j q).trans (h x j q)
theorem frR_D {a b : mmSt} (h : frR a b) : frD a b := fun x j q => h x j (by omega)
theorem RX_D {n : Int} {tp : Nat → Int} {σ σ' : mmSt} {s : Int × Int} (r : RX n tp σ s) (f : ∀ b j, b = 9 ∨ b = 20 → σ' b j = σ b j) : RX n tp σ' s := ⟨TX_fr r.1 (fun b j h => f b j (by omega)), (f 9 5 (by omega)).trans r.2.1, (f 9 4 (by omega)).trans r.2.2.1, r.2.2.2⟩
theorem rep_R {σ σ' : mmSt} {D : Cty} (f : frR σ σ') (h : rep 12 (cX σ 10) D) : rep 12 (cX σ' 10) D := rep_X_of (fun b j q => f b j (by omega)) h
theorem c10 : cnty 10 := .inl rfl
theorem x_addR {Ln : Nat} {σ : mmSt} {D : Cty} (h : rep 12 (cX σ 10) D) (r0 : 0 ≤ D 1 0) (r1 : D 1 0 < 7) {dp : Nat} (hD : 1 ≤ dp) (a b g : Int) : ∃ σ', srun (lyT Ln) (dp, 22, 0, [mR 10, mI a, mI b, mI g], [], σ) = some (σ', 0) ∧ rep 12 (cX σ' 10) (addR D a b g) ∧ ∀ b j, ¬ (10 ≤ b ∧ b ≤ 19) → σ' b j = σ b j := by
  obtain ⟨d, rfl⟩ := Nat.exists_eq_add_of_le' hD
  rw [b_County_addRoad _ _ _ _ _ _ _ c10]
  simp (discharger := omega) only [mup_ne, x1 h, minb_t r0 (show D 1 0 < ((7 : Nat) : Int) by omega), decide_eq_true r1, cond_true, mw (show -2147483648 ≤ D 1 0 + 1 by omega) (show D 1 0 + 1 < 2147483648 by omega)]
  refine ⟨_, rfl, ?_, fun b j q => ?_⟩
  · unfold addR
    refine rep_mkX ?_ ?_ ?_ ?_ (fun i i0 i1 => ?_) (fun i i0 i1 => ?_) (fun i i0 i1 => ?_) (fun i i0 i1 => ?_) (fun i i0 i1 => ?_) (fun i i0 i1 => ?_) (fun i i0 i1 => ?_) (fun i i0 i1 => ?_)
    · simp (discharger := omega) only [mup_ne, cup_nf]; exact x0 h
    · simp (discharger := omega) only [mup_eq, cup_eq]
    · simp (discharger := omega) only [mup_ne, cup_nf]; exact x2 h
    · simp (discharger := omega) only [mup_ne, cup_nf]; exact x3 h
    · simp (discharger := omega) only [mup_ne, cup_nf]; exact x4 h i i0 i1
    · rw [cup_eq] at i1
      simp (discharger := omega) only [mup_ne, cup_nf]
      rw [mup_ap, cup_ap]
      by_cases c : i = D 1 0
      · rw [if_pos (by omega), if_pos (by omega)]
      · rw [if_neg (by omega), if_neg (by omega)]; exact x5 h i i0 (by omega)
    · rw [cup_eq] at i1
      simp (discharger := omega) only [mup_ne, cup_nf]
      rw [mup_ap, cup_ap]
      by_cases c : i = D 1 0
      · rw [if_pos (by omega), if_pos (by omega)]
      · rw [if_neg (by omega), if_neg (by omega)]
        simp (discharger := omega) only [mup_ne, cup_nf]; exact x6 h i i0 (by omega)
    · rw [cup_eq] at i1
      simp (discharger := omega) only [mup_ne, cup_nf]
      rw [mup_ap, cup_ap]
      by_cases c : i = D 1 0
      · rw [if_pos (by omega), if_pos (by omega)]
      · rw [if_neg (by omega), if_neg (by omega)]
        simp (discharger := omega) only [mup_ne, cup_nf]; exact x7 h i i0 (by omega)
    · simp (discharger := omega) only [cup_nf] at i1
      simp (discharger := omega) only [mup_ne, cup_nf]; exact x8 h i i0 i1
    · simp (discharger := omega) only [cup_nf] at i1
      simp (discharger := omega) only [mup_ne, cup_nf]; exact x9 h i i0 i1
    · simp (discharger := omega) only [cup_nf] at i1
      simp (discharger := omega) only [mup_ne, cup_nf]; exact x10 h i i0 i1
    · simp (discharger := omega) only [cup_nf] at i1
      simp (discharger := omega) only [mup_ne, cup_nf]; exact x11 h i i0 i1
  · simp (discharger := omega) only [mup_ne]
theorem x_addQ {Ln : Nat} {σ : mmSt} {D : Cty} (h : rep 12 (cX σ 10) D) (r0 : 0 ≤ D 2 0) (r1 : D 2 0 < 5) {dp : Nat} (hD : 1 ≤ dp) (k a z b : Int) : ∃ σ', srun (lyT Ln) (dp, 23, 0, [mR 10, mI k, mI a, mI z, mI b], [], σ) = some (σ', 0) ∧ rep 12 (cX σ' 10) (addQ D k a z b) ∧ ∀ b j, ¬ (10 ≤ b ∧ b ≤ 19) → σ' b j = σ b j := by
  obtain ⟨d, rfl⟩ := Nat.exists_eq_add_of_le' hD
  rw [b_County_addQuarrel _ _ _ _ _ _ _ _ c10]
  simp (discharger := omega) only [mup_ne, x2 h, minb_t r0 (show D 2 0 < ((5 : Nat) : Int) by omega), decide_eq_true r1, cond_true, mw (show -2147483648 ≤ D 2 0 + 1 by omega) (show D 2 0 + 1 < 2147483648 by omega)]
  refine ⟨_, rfl, ?_, fun b j q => ?_⟩
  · unfold addQ
    refine rep_mkX ?_ ?_ ?_ ?_ (fun i i0 i1 => ?_) (fun i i0 i1 => ?_) (fun i i0 i1 => ?_) (fun i i0 i1 => ?_) (fun i i0 i1 => ?_) (fun i i0 i1 => ?_) (fun i i0 i1 => ?_) (fun i i0 i1 => ?_)
    · simp (discharger := omega) only [mup_ne, cup_nf]; exact x0 h
    · simp (discharger := omega) only [mup_ne, cup_nf]; exact x1 h
    · simp (discharger := omega) only [mup_eq, cup_eq]
    · simp (discharger := omega) only [mup_ne, cup_nf]; exact x3 h
    · simp (discharger := omega) only [mup_ne, cup_nf]; exact x4 h i i0 i1
    · simp (discharger := omega) only [cup_nf] at i1
      simp (discharger := omega) only [mup_ne, cup_nf]; exact x5 h i i0 i1
    · simp (discharger := omega) only [cup_nf] at i1
      simp (discharger := omega) only [mup_ne, cup_nf]; exact x6 h i i0 i1
    · simp (discharger := omega) only [cup_nf] at i1
      simp (discharger := omega) only [mup_ne, cup_nf]; exact x7 h i i0 i1
    · rw [cup_eq] at i1
      simp (discharger := omega) only [mup_ne, cup_nf]
      rw [mup_ap, cup_ap]
      by_cases c : i = D 2 0
      · rw [if_pos (by omega), if_pos (by omega)]
      · rw [if_neg (by omega), if_neg (by omega)]
        skip
        exact x8 h i i0 (by omega)
    · rw [cup_eq] at i1
      simp (discharger := omega) only [mup_ne, cup_nf]
      rw [mup_ap, cup_ap]
      by_cases c : i = D 2 0
      · rw [if_pos (by omega), if_pos (by omega)]
      · rw [if_neg (by omega), if_neg (by omega)]
        all_goals (try simp (discharger := omega) only [mup_ne, cup_nf])
        exact x9 h i i0 (by omega)
    · rw [cup_eq] at i1
      simp (discharger := omega) only [mup_ne, cup_nf]
      rw [mup_ap, cup_ap]
      by_cases c : i = D 2 0
      · rw [if_pos (by omega), if_pos (by omega)]
      · rw [if_neg (by omega), if_neg (by omega)]
        all_goals (try simp (discharger := omega) only [mup_ne, cup_nf])
        exact x10 h i i0 (by omega)
    · rw [cup_eq] at i1
      simp (discharger := omega) only [mup_ne, cup_nf]
      rw [mup_ap, cup_ap]
      by_cases c : i = D 2 0
      · rw [if_pos (by omega), if_pos (by omega)]
      · rw [if_neg (by omega), if_neg (by omega)]
        all_goals (try simp (discharger := omega) only [mup_ne, cup_nf])
        exact x11 h i i0 (by omega)
  · simp (discharger := omega) only [mup_ne]
