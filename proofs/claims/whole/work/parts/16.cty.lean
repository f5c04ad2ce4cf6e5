/-! the abstract county: field and index -/
abbrev Cty : Type := Nat → Int → Int
def szC (C : Cty) (f : Nat) : Int := if f < 4 then 1 else if f = 4 then 7 else if f < 8 then C 1 0 else if f < 13 then C 2 0 else 1
/-- a county of the class at a (12 meals, 13 grazed, 14 walks) -/
def cX (σ : mmSt) (a : Nat) : Cty := fun f i => if f < 4 then σ a f else if f < 13 then σ (a + (f - 3)) (Int.toNat i) else σ a (f - 1)
/-- where a row of the model has it -/
def slM (f : Nat) (i : Int) : Nat := if f < 4 then f else if f = 4 then Int.toNat (4 + i) else if f < 8 then Int.toNat (11 + 3 * i + (f - 5 : Nat)) else Int.toNat (32 + 4 * i + (f - 8 : Nat))
def cM (g : Nat → Int) : Cty := fun f i => g (slM f i)
def rep (n : Nat) (D C : Cty) : Prop := ∀ f i, f < n → 0 ≤ i → i < szC C f → D f i = C f i
/-- a county as it may stand: grids to g -/
def WF (g : Int) (C : Cty) : Prop := (2 ≤ C 0 0 ∧ C 0 0 ≤ 7 ∧ 1 ≤ C 1 0 ∧ C 1 0 ≤ 7 ∧ 1 ≤ C 2 0 ∧ C 2 0 ≤ 5) ∧
  (∀ p : Int, 0 ≤ p → p < 7 → 0 ≤ C 4 p ∧ C 4 p ≤ 99) ∧
  (∀ r : Int, 0 ≤ r → r < C 1 0 → 0 ≤ C 5 r ∧ C 5 r < C 0 0 ∧ 0 ≤ C 6 r ∧ C 6 r < C 0 0 ∧ C 5 r ≠ C 6 r ∧ 0 ≤ C 7 r ∧ C 7 r ≤ g) ∧
  (∀ q : Int, 0 ≤ q → q < C 2 0 → 1 ≤ C 8 q ∧ C 8 q ≤ 5 ∧ 0 ≤ C 9 q ∧ C 9 q < C 0 0 ∧ 0 ≤ C 10 q ∧ C 10 q ≤ 9 ∧ 0 ≤ C 11 q ∧ C 11 q < C 0 0)
def Good (C : Cty) : Prop := WF 9 C ∧ 0 ≤ C 3 0 ∧ C 3 0 ≤ 999 ∧ ∀ p : Int, C 0 0 ≤ p → p < 7 → C 4 p = 0
def NoC (C : Cty) : Prop := C 0 0 = 0 ∧ C 1 0 = 0 ∧ C 2 0 = 0 ∧ C 3 0 = 0 ∧ ∀ p : Int, 0 ≤ p → p < 7 → C 4 p = 0
def Now (σ : mmSt) (C : Cty) : Prop := rep 12 (cX σ 48) C ∧ rep 12 (cM (σ 96)) C ∧ (NoC C ∨ Good C)
/-- a page of the acts -/
def repP (σ : mmSt) (p : Nat) (D : Cty) : Prop := σ p 0 = D 3 0 ∧ (∀ i : Int, 0 ≤ i → i < 7 → σ p (Int.toNat (1 + i)) = D 4 i) ∧ (∀ i : Int, 0 ≤ i → i < D 1 0 → σ p (Int.toNat (8 + i)) = D 7 i) ∧ (∀ i : Int, 0 ≤ i → i < D 2 0 → σ p (Int.toNat (15 + i)) = D 9 i ∧ σ p (Int.toNat (20 + i)) = D 10 i)
def skel (C D : Cty) : Prop := ∀ f i, f = 0 ∨ f = 1 ∨ f = 2 ∨ f = 5 ∨ f = 6 ∨ f = 8 ∨ f = 11 → D f i = C f i
def Racts (σ : mmSt) (C : Cty) : Prop := σ 21 0 = σ 92 9 ∧ 0 ≤ σ 92 9 ∧ σ 92 9 ≤ 24 ∧ 0 ≤ σ 21 2 ∧ σ 21 2 < 24 ∧ ∀ k : Nat, (k : Int) < σ 92 9 → ∃ D, Good D ∧ skel C D ∧ rep 12 (cM (fun j => σ 99 (52 * k + j))) D ∧ repP σ (23 + Int.toNat ((σ 21 2 + 24 - σ 92 9 + k) % 24)) D
def Rimg (σ : mmSt) : Prop := ∀ k : Nat, k < 2 → (σ 102 k = 0 ∧ σ (72 + 10 * k) 0 = 0) ∨ (σ 102 k = 1 ∧ ∃ D, Good D ∧ rep 12 (cX σ (72 + 10 * k)) D ∧ rep 12 (cM (fun j => σ 103 (52 * k + j))) D)
def Rtrace (σ : mmSt) : Prop := σ 69 1 = σ 92 26 ∧ 0 ≤ σ 92 26 ∧ σ 92 26 ≤ 16 ∧ ∀ j : Nat, (j : Int) < σ 92 26 → σ 70 j = σ 104 j
def Rel (σ : mmSt) : Prop := (∀ j, σ 1 j = ro_tab 1 j ∧ σ 2 j = ro_tab 2 j ∧ σ 3 j = ro_tab 3 j) ∧ Rtape σ ∧ Rrows σ ∧ (∃ C, Now σ C ∧ Racts σ C) ∧ Rimg σ ∧ Rtrace σ
theorem Rel_0 (xs : Nat → Int) : Rel (stI xs) := by
  have z : ∀ a j, 4 ≤ a → a ≠ 8 → a ≠ 93 → stI xs a j = 0 := fun a j h1 h2 h3 => by
    unfold stI
    rw [if_neg (by omega), if_neg (by omega)]
    unfold ro_tab
    split <;> first | rfl | omega
  refine ⟨fun j => ⟨rfl, rfl, rfl⟩, ⟨rfl, (by decide : (0 : Int) ≤ 0), (by decide : (0 : Int) ≤ 120), fun j hj => ?_, rfl⟩, ⟨rfl, fun r hr => .inl ?_⟩, ⟨fun _ _ => 0, ⟨?_, ?_, .inl ⟨rfl, rfl, rfl, rfl, fun _ _ _ => rfl⟩⟩, ⟨rfl, (by decide : (0 : Int) ≤ 0), (by decide : (0 : Int) ≤ 24), (by decide : (0 : Int) ≤ 0), (by decide : (0 : Int) < 24), fun k hk => ?_⟩⟩, fun k hk => .inl ⟨z _ _ (by omega) (by omega) (by omega), z _ _ (by omega) (by omega) (by omega)⟩, ⟨rfl, (by decide : (0 : Int) ≤ 0), (by decide : (0 : Int) ≤ 16), fun j hj => ?_⟩⟩
  · exact absurd hj (by show ¬ (j : Int) < 0; omega)
  · have e : ∀ a, a = 8 ∨ a = 93 → stI xs a r = -1 := fun a ha => by
      unfold stI
      rw [if_neg (by omega), if_pos ⟨ha, hr⟩]
    exact ⟨e _ (.inr rfl), e _ (.inl rfl)⟩
  · intro f i _ _ _
    unfold cX
    split
    · exact z _ _ (by omega) (by omega) (by omega)
    · split <;> exact z _ _ (by omega) (by omega) (by omega)
  · intro f i _ _ _
    exact z _ _ (by omega) (by omega) (by omega)
  · exact absurd hk (by show ¬ (k : Int) < 0; omega)
  · exact absurd hj (by show ¬ (j : Int) < 0; omega)
/-! what is scratch: no part of the relation speaks of it -/
def scr (b j : Nat) : Prop := (10 ≤ b ∧ b ≤ 19) ∨ (57 ≤ b ∧ b ≤ 68) ∨ b = 97 ∨ b = 98 ∨ b = 101 ∨ (b = 9 ∧ (j = 4 ∨ j = 5)) ∨ (b = 48 ∧ 12 ≤ j) ∨ (b = 92 ∧ j ≠ 1 ∧ j ≠ 9 ∧ j ≠ 11 ∧ j ≠ 18 ∧ j ≠ 26)
def quiet (σ σ' : mmSt) : Prop := ∀ b j, ¬ scr b j → σ' b j = σ b j
theorem mup_ap (σ : mmSt) (a i : Nat) (v : Int) (b j : Nat) : mup σ a i v b j = if b = a ∧ j = i then v else σ b j := rfl
theorem mup_ne {σ : mmSt} {a i : Nat} {v : Int} {b j : Nat} (h : ¬ (b = a ∧ j = i)) : mup σ a i v b j = σ b j := if_neg h
theorem mup_eq (σ : mmSt) (a i : Nat) (v : Int) : mup σ a i v a i = v := if_pos ⟨rfl, rfl⟩
theorem quiet_rfl (σ : mmSt) : quiet σ σ := fun _ _ _ => rfl
theorem quiet_trans {a b c : mmSt} (h : quiet a b) (k : quiet b c) : quiet a c := fun x j q => (k x j q).trans (h x j q)
theorem quiet_up {σ : mmSt} {a i : Nat} {v : Int} (h : scr a i) : quiet σ (mup σ a i v) := fun b j q => if_neg (fun e => q (by rw [e.1, e.2]; exact h))
theorem rep_X_of {σ σ' : mmSt} {a : Nat} {C : Cty} (h : ∀ b j, (b = a ∧ j < 4) ∨ (a < b ∧ b ≤ a + 8) → σ' b j = σ b j) (w : rep 12 (cX σ a) C) : rep 12 (cX σ' a) C := by
  intro f i hf h0 h1
  rw [← w f i hf h0 h1]
  unfold cX
  split
  · exact h _ _ (.inl ⟨rfl, by omega⟩)
  · rw [if_pos (by omega), if_pos (by omega)]; exact h _ _ (.inr ⟨by omega, by omega⟩)
theorem rep_M_of {g g' : Nat → Int} {n : Nat} {C : Cty} (h : ∀ j, g' j = g j) (w : rep n (cM g) C) : rep n (cM g') C := by
  rw [funext h]; exact w
theorem repP_of {σ σ' : mmSt} {p : Nat} {D : Cty} (h : ∀ j, σ' p j = σ p j) (w : repP σ p D) : repP σ' p D := by
  unfold repP
  rw [funext h]; exact w
theorem Now_quiet {σ σ' : mmSt} {C : Cty} (q : quiet σ σ') (w : Now σ C) : Now σ' C :=
  ⟨rep_X_of (fun b j h => q b j (by unfold scr; omega)) w.1, rep_M_of (fun j => q 96 j (by unfold scr; omega)) w.2.1, w.2.2⟩
theorem Racts_quiet {σ σ' : mmSt} {C : Cty} (q : quiet σ σ') (w : Racts σ C) : Racts σ' C := by
  obtain ⟨w1, w2, w3, w4, w5, w6⟩ := w
  unfold Racts
  rw [q 21 0 (by unfold scr; omega), q 21 2 (by unfold scr; omega), q 92 9 (by unfold scr; omega)]
  refine ⟨w1, w2, w3, w4, w5, fun k hk => ?_⟩
  obtain ⟨D, d1, d2, d3, d4⟩ := w6 k hk
  exact ⟨D, d1, d2, rep_M_of (fun j => q 99 _ (by unfold scr; omega)) d3, repP_of (fun j => q _ _ (by unfold scr; omega)) d4⟩
theorem Rimg_quiet {σ σ' : mmSt} (q : quiet σ σ') (w : Rimg σ) : Rimg σ' := by
  intro k hk
  rw [q 102 k (by unfold scr; omega), q (72 + 10 * k) 0 (by unfold scr; omega)]
  rcases w k hk with w | ⟨w1, D, d1, d2, d3⟩
  · exact .inl w
  · exact .inr ⟨w1, D, d1, rep_X_of (fun b j h => q b j (by unfold scr; omega)) d2, rep_M_of (fun j => q 103 _ (by unfold scr; omega)) d3⟩
theorem Rel_quiet {σ σ' : mmSt} (q : quiet σ σ') (w : Rel σ) : Rel σ' := by
  have c : ∀ b, b ≠ 9 → b ≠ 48 → b ≠ 92 → ¬ scr b 0 → σ' b = σ b := fun b h1 h2 h3 h => funext fun j => q b j (by unfold scr at *; omega)
  obtain ⟨w1, w2, w3, ⟨C, w4, w5⟩, w6, w7⟩ := w
  refine ⟨fun j => ?_, ?_, ?_, ⟨C, Now_quiet q w4, Racts_quiet q w5⟩, Rimg_quiet q w6, ?_⟩
  · rw [q 1 j (by unfold scr; omega), q 2 j (by unfold scr; omega), q 3 j (by unfold scr; omega)]; exact w1 j
  · unfold Rtape
    rw [q 9 1 (by unfold scr; omega), q 92 11 (by unfold scr; omega), q 9 2 (by unfold scr; omega), q 92 18 (by unfold scr; omega), c 20 (by omega) (by omega) (by omega) (by unfold scr; omega), c 100 (by omega) (by omega) (by omega) (by unfold scr; omega)]
    exact w2
  · unfold Rrows
    rw [q 4 7 (by unfold scr; omega), q 92 1 (by unfold scr; omega), c 93 (by omega) (by omega) (by omega) (by unfold scr; omega), c 8 (by omega) (by omega) (by omega) (by unfold scr; omega), c 7 (by omega) (by omega) (by omega) (by unfold scr; omega), c 94 (by omega) (by omega) (by omega) (by unfold scr; omega), c 6 (by omega) (by omega) (by omega) (by unfold scr; omega), c 95 (by omega) (by omega) (by omega) (by unfold scr; omega)]
    exact w3
  · unfold Rtrace
    rw [q 69 1 (by unfold scr; omega), q 92 26 (by unfold scr; omega), c 70 (by omega) (by omega) (by omega) (by unfold scr; omega), c 104 (by omega) (by omega) (by omega) (by unfold scr; omega)]
    exact w7
/-- a call that touches scratch alone -/
theorem cok_of {Ln mx mm : Nat} {Lx Lm : List mmV} (h : ∀ σ C, Rel σ → Now σ C → Racts σ C → ∃ v σ1, srun (lyT Ln) (99, mx, 0, Lx, [], σ) = some (σ1, v) ∧ quiet σ σ1 ∧ ∀ τ, quiet σ τ → ∃ σ2, srun (lyT Ln) (99, mm, 0, Lm, [], τ) = some (σ2, v) ∧ quiet τ σ2) : cok Rel Ln mx mm Lx Lm := by
  intro σ hR
  obtain ⟨C, hC, hA⟩ := hR.2.2.2.1
  obtain ⟨v, σ1, e1, q1, k⟩ := h σ C hR hC hA
  obtain ⟨σ2, e2, q2⟩ := k σ1 q1
  exact ⟨σ1, v, σ2, e1, e2, Rel_quiet q2 (Rel_quiet q1 hR), funext fun j => q1 0 j (by unfold scr; omega), funext fun j => quiet_trans q1 q2 0 j (by unfold scr; omega)⟩
/-! reading and writing a county -/
theorem rep_le {n m : Nat} {D C : Cty} (h : rep n D C) (hm : m ≤ n) : rep m D C := fun f i hf => h f i (by omega)
theorem x0 {σ : mmSt} {a : Nat} {C : Cty} (h : rep 12 (cX σ a) C) : σ a 0 = C 0 0 := h 0 0 (by decide) (by decide) (by show (0 : Int) < 1; decide)
theorem x1 {σ : mmSt} {a : Nat} {C : Cty} (h : rep 12 (cX σ a) C) : σ a 1 = C 1 0 := h 1 0 (by decide) (by decide) (by show (0 : Int) < 1; decide)
theorem x2 {σ : mmSt} {a : Nat} {C : Cty} (h : rep 12 (cX σ a) C) : σ a 2 = C 2 0 := h 2 0 (by decide) (by decide) (by show (0 : Int) < 1; decide)
theorem x3 {σ : mmSt} {a : Nat} {C : Cty} (h : rep 12 (cX σ a) C) : σ a 3 = C 3 0 := h 3 0 (by decide) (by decide) (by show (0 : Int) < 1; decide)
theorem x4 {σ : mmSt} {a : Nat} {C : Cty} (h : rep 12 (cX σ a) C) (p : Int) (h0 : 0 ≤ p) (h1 : p < 7) : σ (a + 1) (Int.toNat p) = C 4 p := h 4 p (by decide) h0 h1
theorem x5 {σ : mmSt} {a : Nat} {C : Cty} (h : rep 12 (cX σ a) C) (p : Int) (h0 : 0 ≤ p) (h1 : p < C 1 0) : σ (a + 2) (Int.toNat p) = C 5 p := h 5 p (by decide) h0 h1
theorem x6 {σ : mmSt} {a : Nat} {C : Cty} (h : rep 12 (cX σ a) C) (p : Int) (h0 : 0 ≤ p) (h1 : p < C 1 0) : σ (a + 3) (Int.toNat p) = C 6 p := h 6 p (by decide) h0 h1
theorem x7 {σ : mmSt} {a : Nat} {C : Cty} (h : rep 12 (cX σ a) C) (p : Int) (h0 : 0 ≤ p) (h1 : p < C 1 0) : σ (a + 4) (Int.toNat p) = C 7 p := h 7 p (by decide) h0 h1
theorem x8 {σ : mmSt} {a : Nat} {C : Cty} (h : rep 12 (cX σ a) C) (p : Int) (h0 : 0 ≤ p) (h1 : p < C 2 0) : σ (a + 5) (Int.toNat p) = C 8 p := h 8 p (by decide) h0 h1
theorem x9 {σ : mmSt} {a : Nat} {C : Cty} (h : rep 12 (cX σ a) C) (p : Int) (h0 : 0 ≤ p) (h1 : p < C 2 0) : σ (a + 6) (Int.toNat p) = C 9 p := h 9 p (by decide) h0 h1
theorem x10 {σ : mmSt} {a : Nat} {C : Cty} (h : rep 12 (cX σ a) C) (p : Int) (h0 : 0 ≤ p) (h1 : p < C 2 0) : σ (a + 7) (Int.toNat p) = C 10 p := h 10 p (by decide) h0 h1
theorem x11 {σ : mmSt} {a : Nat} {C : Cty} (h : rep 12 (cX σ a) C) (p : Int) (h0 : 0 ≤ p) (h1 : p < C 2 0) : σ (a + 8) (Int.toNat p) = C 11 p := h 11 p (by decide) h0 h1
theorem m0 {g : Nat → Int} {C : Cty} (h : rep 12 (cM g) C) : g 0 = C 0 0 := h 0 0 (by decide) (by decide) (by show (0 : Int) < 1; decide)
theorem m1 {g : Nat → Int} {C : Cty} (h : rep 12 (cM g) C) : g 1 = C 1 0 := h 1 0 (by decide) (by decide) (by show (0 : Int) < 1; decide)
theorem m2 {g : Nat → Int} {C : Cty} (h : rep 12 (cM g) C) : g 2 = C 2 0 := h 2 0 (by decide) (by decide) (by show (0 : Int) < 1; decide)
theorem m3 {g : Nat → Int} {C : Cty} (h : rep 12 (cM g) C) : g 3 = C 3 0 := h 3 0 (by decide) (by decide) (by show (0 : Int) < 1; decide)
theorem m4 {g : Nat → Int} {C : Cty} (h : rep 12 (cM g) C) (p : Int) (h0 : 0 ≤ p) (h1 : p < 7) : g (Int.toNat (4 + p)) = C 4 p := h 4 p (by decide) h0 h1
theorem m5 {g : Nat → Int} {C : Cty} (h : rep 12 (cM g) C) (p : Int) (h0 : 0 ≤ p) (h1 : p < C 1 0) : g (Int.toNat (11 + 3 * p + 0)) = C 5 p := h 5 p (by decide) h0 h1
theorem m6 {g : Nat → Int} {C : Cty} (h : rep 12 (cM g) C) (p : Int) (h0 : 0 ≤ p) (h1 : p < C 1 0) : g (Int.toNat (11 + 3 * p + 1)) = C 6 p := h 6 p (by decide) h0 h1
theorem m7 {g : Nat → Int} {C : Cty} (h : rep 12 (cM g) C) (p : Int) (h0 : 0 ≤ p) (h1 : p < C 1 0) : g (Int.toNat (11 + 3 * p + 2)) = C 7 p := h 7 p (by decide) h0 h1
theorem m8 {g : Nat → Int} {C : Cty} (h : rep 12 (cM g) C) (p : Int) (h0 : 0 ≤ p) (h1 : p < C 2 0) : g (Int.toNat (32 + 4 * p + 0)) = C 8 p := h 8 p (by decide) h0 h1
theorem m9 {g : Nat → Int} {C : Cty} (h : rep 12 (cM g) C) (p : Int) (h0 : 0 ≤ p) (h1 : p < C 2 0) : g (Int.toNat (32 + 4 * p + 1)) = C 9 p := h 9 p (by decide) h0 h1
theorem m10 {g : Nat → Int} {C : Cty} (h : rep 12 (cM g) C) (p : Int) (h0 : 0 ≤ p) (h1 : p < C 2 0) : g (Int.toNat (32 + 4 * p + 2)) = C 10 p := h 10 p (by decide) h0 h1
theorem m11 {g : Nat → Int} {C : Cty} (h : rep 12 (cM g) C) (p : Int) (h0 : 0 ≤ p) (h1 : p < C 2 0) : g (Int.toNat (32 + 4 * p + 3)) = C 11 p := h 11 p (by decide) h0 h1
def cup (C : Cty) (f : Nat) (i v : Int) : Cty := fun g j => if g = f ∧ j = i then v else C g j
theorem cup_ap (C : Cty) (f : Nat) (i v : Int) (g : Nat) (j : Int) : cup C f i v g j = if g = f ∧ j = i then v else C g j := rfl
theorem cup_eq (C : Cty) (f : Nat) (i v : Int) : cup C f i v f i = v := if_pos ⟨rfl, rfl⟩
theorem cup_nf {C : Cty} {f : Nat} {i v : Int} {g : Nat} {j : Int} (h : ¬ g = f) : cup C f i v g j = C g j := if_neg (fun e => h e.1)
theorem cup_ni {C : Cty} {f : Nat} {i v : Int} {g : Nat} {j : Int} (h : ¬ j = i) : cup C f i v g j = C g j := if_neg (fun e => h e.2)
theorem sz_upd {C : Cty} {f : Nat} {i v : Int} (h : 3 ≤ f) (g : Nat) : szC (cup C f i v) g = szC C g := by
  unfold szC
  rw [cup_nf (by omega), cup_nf (by omega)]
theorem rep_upX {σ : mmSt} {a : Nat} {C : Cty} {n f : Nat} {i v v' : Int} (h4 : 4 ≤ f) (h13 : f < 13) (hi : 0 ≤ i) (hv : f < n → v = v') (h : rep n (cX σ a) C) : rep n (cX (mup σ (a + (f - 3)) (Int.toNat i) v) a) (cup C f i v') := by
  intro g j hg j0 j1
  rw [sz_upd (by omega)] at j1
  have e := h g j hg j0 j1
  unfold cX at e ⊢
  rw [cup_ap]
  by_cases c1 : g < 4
  · rw [if_pos c1] at e ⊢
    rw [mup_ne (by omega), if_neg (by omega)]; exact e
  · rw [if_neg c1] at e ⊢
    by_cases c2 : g < 13
    · rw [if_pos c2] at e ⊢
      rw [mup_ap, e]
      by_cases c3 : g = f ∧ j = i
      · rw [if_pos c3, if_pos (by omega)]; exact hv (by omega)
      · rw [if_neg c3, if_neg (by omega)]
    · rw [if_neg c2] at e ⊢
      rw [mup_ne (by omega), if_neg (by omega)]; exact e
theorem rep_upX3 {σ : mmSt} {a : Nat} {C : Cty} {n : Nat} {v : Int} (h : rep n (cX σ a) C) : rep n (cX (mup σ a 3 v) a) (cup C 3 0 v) := by
  intro g j hg j0 j1
  rw [sz_upd (by omega)] at j1
  have e := h g j hg j0 j1
  unfold cX at e ⊢
  rw [cup_ap]
  by_cases c1 : g < 4
  · rw [if_pos c1] at e ⊢
    have : j < 1 := by unfold szC at j1; rw [if_pos c1] at j1; exact j1
    rw [mup_ap, e]
    by_cases c3 : g = 3
    · rw [if_pos (by omega), if_pos (by omega)]
    · rw [if_neg (by omega), if_neg (by omega)]
  · rw [if_neg c1] at e ⊢
    rw [if_neg (show ¬ (g = 3 ∧ j = 0) by omega)]
    split at e <;> rename_i c2
    · rw [if_pos c2, mup_ne (by omega)]; exact e
    · rw [if_neg c2, mup_ne (by omega)]; exact e
theorem rep_upXt {σ : mmSt} {a : Nat} {C : Cty} {n f : Nat} {v v' : Int} (h13 : 13 ≤ f) (hv : f < n → v = v') (h : rep n (cX σ a) C) : rep n (cX (mup σ a (f - 1) v) a) (cup C f 0 v') := by
  intro g j hg j0 j1
  rw [sz_upd (by omega)] at j1
  have e := h g j hg j0 j1
  unfold cX at e ⊢
  rw [cup_ap]
  by_cases c1 : g < 4
  · rw [if_pos c1] at e ⊢
    rw [mup_ne (by omega), if_neg (by omega)]; exact e
  · rw [if_neg c1] at e ⊢
    by_cases c2 : g < 13
    · rw [if_pos c2] at e ⊢
      rw [mup_ne (by omega), if_neg (by omega)]; exact e
    · rw [if_neg c2] at e ⊢
      have : j < 1 := by unfold szC at j1; rw [if_neg c1, if_neg (by omega), if_neg (by omega), if_neg c2] at j1; exact j1
      rw [mup_ap, e]
      by_cases c3 : g = f
      · rw [if_pos (by omega), if_pos (by omega)]; exact hv (by omega)
      · rw [if_neg (by omega), if_neg (by omega)]
theorem slM_inj {C : Cty} {f g : Nat} {i j : Int} (hb : C 1 0 ≤ 7 ∧ C 2 0 ≤ 5) (hf : f < 12) (hg : g < 12) (i0 : 0 ≤ i) (i1 : i < szC C f) (j0 : 0 ≤ j) (j1 : j < szC C g) (e : slM g j = slM f i) : g = f ∧ j = i := by
  unfold szC at i1 j1
  unfold slM at e
  rw [if_pos (show f < 13 by omega)] at i1
  rw [if_pos (show g < 13 by omega)] at j1
  by_cases f1 : f < 4
  · rw [if_pos f1] at i1 e
    by_cases g1 : g < 4
    · rw [if_pos g1] at j1 e; omega
    · rw [if_neg g1] at j1 e; by_cases g2 : g = 4
      · rw [if_pos g2] at j1 e; omega
      · rw [if_neg g2] at j1 e; by_cases g3 : g < 8
        · rw [if_pos g3] at j1 e; omega
        · rw [if_neg g3] at j1 e; omega
  · rw [if_neg f1] at i1 e
    by_cases f2 : f = 4
    · rw [if_pos f2] at i1 e
      by_cases g1 : g < 4
      · rw [if_pos g1] at j1 e; omega
      · rw [if_neg g1] at j1 e; by_cases g2 : g = 4
        · rw [if_pos g2] at j1 e; omega
        · rw [if_neg g2] at j1 e; by_cases g3 : g < 8
          · rw [if_pos g3] at j1 e; omega
          · rw [if_neg g3] at j1 e; omega
    · rw [if_neg f2] at i1 e
      by_cases f3 : f < 8
      · rw [if_pos f3] at i1 e
        by_cases g1 : g < 4
        · rw [if_pos g1] at j1 e; omega
        · rw [if_neg g1] at j1 e; by_cases g2 : g = 4
          · rw [if_pos g2] at j1 e; omega
          · rw [if_neg g2] at j1 e; by_cases g3 : g < 8
            · rw [if_pos g3] at j1 e; omega
            · rw [if_neg g3] at j1 e; omega
      · rw [if_neg f3] at i1 e
        by_cases g1 : g < 4
        · rw [if_pos g1] at j1 e; omega
        · rw [if_neg g1] at j1 e; by_cases g2 : g = 4
          · rw [if_pos g2] at j1 e; omega
          · rw [if_neg g2] at j1 e; by_cases g3 : g < 8
            · rw [if_pos g3] at j1 e; omega
            · rw [if_neg g3] at j1 e; omega
theorem rep_upM {σ : mmSt} {r : Nat} {C : Cty} {f : Nat} {i v : Int} (hb : C 1 0 ≤ 7 ∧ C 2 0 ≤ 5) (h3 : 3 ≤ f) (h12 : f < 12) (i0 : 0 ≤ i) (i1 : i < szC C f) (h : rep 12 (cM (σ r)) C) : rep 12 (cM ((mup σ r (slM f i) v) r)) (cup C f i v) := by
  intro g j hg j0 j1
  rw [sz_upd (by omega)] at j1
  have e := h g j hg j0 j1
  unfold cM at e ⊢
  rw [cup_ap, mup_ap, e]
  by_cases c : g = f ∧ j = i
  · rw [if_pos c, if_pos ⟨rfl, by rw [c.1, c.2]⟩]
  · rw [if_neg c, if_neg (fun w => c (slM_inj hb h12 hg i0 i1 j0 j1 w.2))]
theorem WF_upd {g : Int} {C : Cty} {f : Nat} {i v : Int} (w : WF g C) (h : f = 3 ∨ (f = 4 ∧ 0 ≤ v ∧ v ≤ 99) ∨ (f = 7 ∧ 0 ≤ v ∧ v ≤ g) ∨ (f = 8 ∧ 1 ≤ v ∧ v ≤ 5) ∨ (f = 9 ∧ 0 ≤ v ∧ v < C 0 0) ∨ (f = 10 ∧ 0 ≤ v ∧ v ≤ 9) ∨ 12 ≤ f) : WF g (cup C f i v) := by
  obtain ⟨w0, w1, w2, w3⟩ := w
  have s : ∀ k, k < 3 → cup C f i v k 0 = C k 0 := fun k hk => cup_nf (by omega)
  unfold WF
  rw [s 0 (by omega), s 1 (by omega), s 2 (by omega)]
  refine ⟨w0, fun p h0 h1 => ?_, fun r h0 h1 => ?_, fun q h0 h1 => ?_⟩
  · have a := w1 p h0 h1
    rw [cup_ap]
    split <;> omega
  · have a := w2 r h0 h1
    rw [cup_nf (g := 5) (by omega), cup_nf (g := 6) (by omega), cup_ap]
    split <;> omega
  · have a := w3 q h0 h1
    rw [cup_nf (g := 11) (by omega), cup_ap, cup_ap, cup_ap]
    split <;> split <;> split <;> omega
theorem WF_le {g h : Int} {C : Cty} (w : WF g C) (l : g ≤ h) : WF h C := by
  obtain ⟨w0, w1, w2, w3⟩ := w
  refine ⟨w0, w1, fun r a b => ?_, w3⟩
  have := w2 r a b
  omega
