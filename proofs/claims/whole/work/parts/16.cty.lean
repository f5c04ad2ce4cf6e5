/-! the abstract county: field and index -/
abbrev Cty : Type := Nat → Int → Int
/-- a county of the class at a -/
def cX (σ : mmSt) (a : Nat) : Cty := fun f i => if f < 4 then σ a f else σ (a + (f - 3)) (Int.toNat i)
/-- a county of the model in the row r from o on -/
def cM (σ : mmSt) (r o : Nat) : Cty := fun f i => if f < 4 then σ r (o + f) else if f = 4 then σ r (o + Int.toNat (4 + i)) else if f < 8 then σ r (o + Int.toNat (11 + 3 * i + (f - 5 : Nat))) else σ r (o + Int.toNat (32 + 4 * i + (f - 8 : Nat)))
/-- a page p of the acts, over the county at a -/
def cP (σ : mmSt) (p a : Nat) : Cty := fun f i => if f = 3 then σ p 0 else if f = 4 then σ p (Int.toNat (1 + i)) else if f = 7 then σ p (Int.toNat (8 + i)) else if f = 9 then σ p (Int.toNat (15 + i)) else if f = 10 then σ p (Int.toNat (20 + i)) else cX σ a f i
def lim (f : Nat) : Nat := if f = 4 then 0 else if f < 8 then 1 else 2
/-- nothing outside what is used -/
def nrm (C : Cty) : Cty := fun f i => if f < 4 then C f 0 else if f < 12 ∧ 0 ≤ i ∧ i < C (lim f) 0 then C f i else 0
/-- a county as it may stand: grids to g, years to y -/
def WF (g y : Int) (C : Cty) : Prop := 2 ≤ C 0 0 ∧ C 0 0 ≤ 7 ∧ 1 ≤ C 1 0 ∧ C 1 0 ≤ 7 ∧ 1 ≤ C 2 0 ∧ C 2 0 ≤ 5 ∧ 0 ≤ C 3 0 ∧ C 3 0 ≤ y ∧
  (∀ p : Int, 0 ≤ p → p < C 0 0 → 0 ≤ C 4 p ∧ C 4 p ≤ 99) ∧
  (∀ r : Int, 0 ≤ r → r < C 1 0 → 0 ≤ C 5 r ∧ C 5 r < C 0 0 ∧ 0 ≤ C 6 r ∧ C 6 r < C 0 0 ∧ C 5 r ≠ C 6 r ∧ 0 ≤ C 7 r ∧ C 7 r ≤ g) ∧
  (∀ q : Int, 0 ≤ q → q < C 2 0 → 1 ≤ C 8 q ∧ C 8 q ≤ 5 ∧ 0 ≤ C 9 q ∧ C 9 q < C 0 0 ∧ 0 ≤ C 10 q ∧ C 10 q ≤ 9 ∧ 0 ≤ C 11 q ∧ C 11 q < C 0 0)
def Rnow (σ : mmSt) : Prop := nrm (cX σ 48) = nrm (cM σ 96 0) ∧ (∀ p : Int, 0 ≤ p → p < 7 → σ 96 0 ≤ p → σ 96 (Int.toNat (4 + p)) = 0) ∧ ((σ 48 0 = 0 ∧ σ 48 1 = 0 ∧ σ 48 2 = 0 ∧ σ 48 3 = 0) ∨ WF 9 999 (cX σ 48))
def Racts (σ : mmSt) : Prop := σ 21 0 = σ 92 9 ∧ 0 ≤ σ 92 9 ∧ σ 92 9 ≤ 24 ∧ 0 ≤ σ 21 2 ∧ σ 21 2 < 24 ∧ ∀ k : Nat, (k : Int) < σ 92 9 → WF 9 999 (cM σ 99 (52 * k)) ∧ (∀ p : Int, 0 ≤ p → p < 7 → σ 96 0 ≤ p → σ 99 (52 * k + Int.toNat (4 + p)) = 0) ∧ nrm (cP σ (23 + Int.toNat ((σ 21 2 + 24 - σ 92 9 + k) % 24)) 48) = nrm (cM σ 99 (52 * k))
def Rimg (σ : mmSt) : Prop := ∀ k : Nat, k < 2 → (σ 102 k = 0 ∧ σ (72 + 10 * k) 0 = 0) ∨ (σ 102 k = 1 ∧ WF 9 999 (cX σ (72 + 10 * k)) ∧ (∀ p : Int, 0 ≤ p → p < 7 → σ 103 (52 * k) ≤ p → σ 103 (52 * k + Int.toNat (4 + p)) = 0) ∧ nrm (cX σ (72 + 10 * k)) = nrm (cM σ 103 (52 * k)))
def Rtrace (σ : mmSt) : Prop := σ 69 1 = σ 92 26 ∧ 0 ≤ σ 92 26 ∧ σ 92 26 ≤ 16 ∧ ∀ j : Nat, (j : Int) < σ 92 26 → σ 70 j = σ 104 j
def Rel (σ : mmSt) : Prop := (∀ j, σ 1 j = ro_tab 1 j ∧ σ 2 j = ro_tab 2 j ∧ σ 3 j = ro_tab 3 j) ∧ Rtape σ ∧ Rrows σ ∧ Rnow σ ∧ Racts σ ∧ Rimg σ ∧ Rtrace σ
theorem Rel_0 (xs : Nat → Int) : Rel (stI xs) := by
  have z : ∀ a j, 4 ≤ a → a ≠ 8 → a ≠ 93 → stI xs a j = 0 := fun a j h1 h2 h3 => by
    unfold stI
    rw [if_neg (by omega), if_neg (by omega)]
    unfold ro_tab
    split <;> first | rfl | omega
  refine ⟨fun j => ⟨rfl, rfl, rfl⟩, ⟨rfl, (by decide : (0 : Int) ≤ 0), (by decide : (0 : Int) ≤ 120), fun j hj => ?_, rfl⟩, ⟨rfl, fun r hr => .inl ?_⟩, ⟨?_, fun p _ _ _ => z _ _ (by omega) (by omega) (by omega), .inl ⟨rfl, rfl, rfl, rfl⟩⟩, ⟨rfl, (by decide : (0 : Int) ≤ 0), (by decide : (0 : Int) ≤ 24), (by decide : (0 : Int) ≤ 0), (by decide : (0 : Int) < 24), fun k hk => ?_⟩, fun k hk => .inl ⟨z _ _ (by omega) (by omega) (by omega), z _ _ (by omega) (by omega) (by omega)⟩, ⟨rfl, (by decide : (0 : Int) ≤ 0), (by decide : (0 : Int) ≤ 16), fun j hj => ?_⟩⟩
  · exact absurd hj (by show ¬ (j : Int) < 0; omega)
  · have e : ∀ a, a = 8 ∨ a = 93 → stI xs a r = -1 := fun a ha => by
      unfold stI
      rw [if_neg (by omega), if_pos ⟨ha, hr⟩]
    exact ⟨e _ (.inr rfl), e _ (.inl rfl)⟩
  · funext f i
    unfold nrm
    by_cases q : f < 4
    · rw [if_pos q, if_pos q]
      unfold cX cM
      rw [if_pos q, if_pos q, z _ _ (by omega) (by omega) (by omega), z _ _ (by omega) (by omega) (by omega)]
    · have l0 : cX (stI xs) 48 (lim f) 0 = 0 := by
        unfold cX lim
        split <;> (try split) <;> (try split) <;> first | exact z _ _ (by omega) (by omega) (by omega) | omega
      have l1 : cM (stI xs) 96 0 (lim f) 0 = 0 := by
        unfold cM
        split
        · exact z _ _ (by omega) (by omega) (by omega)
        · split
          · exact z _ _ (by omega) (by omega) (by omega)
          · split <;> exact z _ _ (by omega) (by omega) (by omega)
      rw [if_neg q, if_neg q, l0, l1, if_neg (by omega), if_neg (by omega)]
  · exact absurd hk (by show ¬ (k : Int) < 0; omega)
  · exact absurd hj (by show ¬ (j : Int) < 0; omega)
