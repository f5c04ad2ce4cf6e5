noncomputable def gunr (st : List Nat) : Nat → mmL × mmX → Option (mmL × mmY)
  | 0, x => grun mstep x
  | k + 1, x => gev (grun mstep) (fun z => bif st.contains z.2.2.2.1 then grun mstep z else gunr st k z) (mstep x)
theorem grun_unr (st : List Nat) : ∀ (k : Nat) (x : mmL × mmX), grun mstep x = gunr st k x
  | 0, _ => rfl
  | k + 1, x => by
    have e0 : grun mstep x = gev (grun mstep) (grun mstep) (mstep x) := grun_eq mstep x
    have e : grun mstep = (fun z => bif st.contains z.2.2.2.1 then grun mstep z else gunr st k z) := by
      funext z
      rw [← grun_unr st k z]
      cases st.contains z.2.2.2.1 <;> rfl
    rw [e0]
    show gev (grun mstep) (grun mstep) (mstep x) = gev (grun mstep) (fun z => bif st.contains z.2.2.2.1 then grun mstep z else gunr st k z) (mstep x)
    rw [← e]
theorem law_b0 (g : Nat → mmC) (σ : mmSt) : grun mstep ((4, 0, g), (100, 242, 0, [mR 0, mJ, mJ, mJ], [], σ)) = (grun mstep ((5, 8, mlay g 4 (.inr (.inr (6, [some none, some none, some none, some none, some none, some none, some none, none])))), (99, 105, 0, [mR 4, mJ], [], mzero σ 4))).bind (fun y => grun mstep (y.1, (100, 242, 3, [mR 0, mJ, mJ, mJ], [mR 4], y.2.1))) := (grun_unr [3] 3 _).trans rfl
theorem law_b3 (g : Nat → mmC) (σ : mmSt) : grun mstep ((92, 1475, g), (100, 242, 3, [mR 0, mJ, mJ, mJ], [mR 4], σ)) = (grun mstep ((93, 1502, mlay g 92 (.inr (.inr (7, [none, none, some none, some none, some none, some none, some none, some none, some none, none, some none, none, none, none, none, none, none, none, none, none, none, none, some none, some none, some none, some none, none])))), (99, 155, 0, [mR 92], [], mzero σ 92))).bind (fun y => grun mstep (y.1, (100, 242, 7, [mR 0, mR 4, mJ, mJ], [mR 92], y.2.1))) := (grun_unr [7] 4 _).trans rfl
theorem law_b7 (ly : mmL) (σ : mmSt) : grun mstep (ly, (100, 242, 7, [mR 0, mR 4, mJ, mJ], [mR 92], σ)) = grun mstep (ly, (100, 242, 10, [mR 0, mR 4, mR 92, mI 0], [], σ)) := (grun_unr [10] 3 _).trans rfl
set_option maxHeartbeats 4000000 in
set_option maxRecDepth 100000 in
theorem lay_fin (Ln : Nat) : fM (fX (fun k => .inl (false, if k = 0 then Ln else 6))) = layT Ln := by
  funext k
  rcases Nat.lt_or_ge k 105 with h | h
  · match k, h with
    | 0, _ => rfl
    | 1, _ => rfl
    | 2, _ => rfl
    | 3, _ => rfl
    | 4, _ => rfl
    | 5, _ => rfl
    | 6, _ => rfl
    | 7, _ => rfl
    | 8, _ => rfl
    | 9, _ => rfl
    | 10, _ => rfl
    | 11, _ => rfl
    | 12, _ => rfl
    | 13, _ => rfl
    | 14, _ => rfl
    | 15, _ => rfl
    | 16, _ => rfl
    | 17, _ => rfl
    | 18, _ => rfl
    | 19, _ => rfl
    | 20, _ => rfl
    | 21, _ => rfl
    | 22, _ => rfl
    | 23, _ => rfl
    | 24, _ => rfl
    | 25, _ => rfl
    | 26, _ => rfl
    | 27, _ => rfl
    | 28, _ => rfl
    | 29, _ => rfl
    | 30, _ => rfl
    | 31, _ => rfl
    | 32, _ => rfl
    | 33, _ => rfl
    | 34, _ => rfl
    | 35, _ => rfl
    | 36, _ => rfl
    | 37, _ => rfl
    | 38, _ => rfl
    | 39, _ => rfl
    | 40, _ => rfl
    | 41, _ => rfl
    | 42, _ => rfl
    | 43, _ => rfl
    | 44, _ => rfl
    | 45, _ => rfl
    | 46, _ => rfl
    | 47, _ => rfl
    | 48, _ => rfl
    | 49, _ => rfl
    | 50, _ => rfl
    | 51, _ => rfl
    | 52, _ => rfl
    | 53, _ => rfl
    | 54, _ => rfl
    | 55, _ => rfl
    | 56, _ => rfl
    | 57, _ => rfl
    | 58, _ => rfl
    | 59, _ => rfl
    | 60, _ => rfl
    | 61, _ => rfl
    | 62, _ => rfl
    | 63, _ => rfl
    | 64, _ => rfl
    | 65, _ => rfl
    | 66, _ => rfl
    | 67, _ => rfl
    | 68, _ => rfl
    | 69, _ => rfl
    | 70, _ => rfl
    | 71, _ => rfl
    | 72, _ => rfl
    | 73, _ => rfl
    | 74, _ => rfl
    | 75, _ => rfl
    | 76, _ => rfl
    | 77, _ => rfl
    | 78, _ => rfl
    | 79, _ => rfl
    | 80, _ => rfl
    | 81, _ => rfl
    | 82, _ => rfl
    | 83, _ => rfl
    | 84, _ => rfl
    | 85, _ => rfl
    | 86, _ => rfl
    | 87, _ => rfl
    | 88, _ => rfl
    | 89, _ => rfl
    | 90, _ => rfl
    | 91, _ => rfl
    | 92, _ => rfl
    | 93, _ => rfl
    | 94, _ => rfl
    | 95, _ => rfl
    | 96, _ => rfl
    | 97, _ => rfl
    | 98, _ => rfl
    | 99, _ => rfl
    | 100, _ => rfl
    | 101, _ => rfl
    | 102, _ => rfl
    | 103, _ => rfl
    | 104, _ => rfl
    | k + 105, h => omega
  · have hb : ∀ c, c < 105 → Nat.ble k c = false := fun c hc => by
      cases e : Nat.ble k c with
      | false => rfl
      | true => have := Nat.le_of_ble_eq_true e; omega
    have hr : layT Ln k = .inl (false, 6) := by
      unfold layT
      rw [hb 52 (by decide), hb 78 (by decide), hb 91 (by decide), hb 98 (by decide), hb 101 (by decide), hb 103 (by decide), hb 104 (by decide)]
      rfl
    rw [hr]
    have hn : ∀ c, c < 105 → (k = c) = False := fun c hc => eq_false (by omega)
    have h2 : (k < 47) = False := eq_false (by omega)
    have hm : ∀ (f : Nat → mmC) (a : Nat) (c : mmC), a < 105 → mlay f a c k = f k := fun f a c ha => if_neg (by omega)
    unfold fM fX
    rw [hm _ 92 _ (by decide), hm _ 104 _ (by decide), hm _ 92 _ (by decide), hm _ 103 _ (by decide), hm _ 92 _ (by decide), hm _ 102 _ (by decide), hm _ 92 _ (by decide), hm _ 101 _ (by decide), hm _ 92 _ (by decide), hm _ 100 _ (by decide), hm _ 92 _ (by decide), hm _ 99 _ (by decide), hm _ 92 _ (by decide), hm _ 98 _ (by decide), hm _ 92 _ (by decide), hm _ 97 _ (by decide), hm _ 92 _ (by decide), hm _ 96 _ (by decide), hm _ 92 _ (by decide), hm _ 95 _ (by decide), hm _ 92 _ (by decide), hm _ 94 _ (by decide), hm _ 92 _ (by decide), hm _ 93 _ (by decide), hm _ 92 _ (by decide), hm _ 71 _ (by decide), hm _ 82 _ (by decide), hm _ 91 _ (by decide), hm _ 82 _ (by decide), hm _ 90 _ (by decide), hm _ 82 _ (by decide), hm _ 89 _ (by decide), hm _ 82 _ (by decide), hm _ 88 _ (by decide), hm _ 82 _ (by decide), hm _ 87 _ (by decide), hm _ 82 _ (by decide), hm _ 86 _ (by decide), hm _ 82 _ (by decide), hm _ 85 _ (by decide), hm _ 82 _ (by decide), hm _ 84 _ (by decide), hm _ 82 _ (by decide), hm _ 83 _ (by decide), hm _ 82 _ (by decide), hm _ 71 _ (by decide), hm _ 72 _ (by decide), hm _ 81 _ (by decide), hm _ 72 _ (by decide), hm _ 80 _ (by decide), hm _ 72 _ (by decide), hm _ 79 _ (by decide), hm _ 72 _ (by decide), hm _ 78 _ (by decide), hm _ 72 _ (by decide), hm _ 77 _ (by decide), hm _ 72 _ (by decide), hm _ 76 _ (by decide), hm _ 72 _ (by decide), hm _ 75 _ (by decide), hm _ 72 _ (by decide), hm _ 74 _ (by decide), hm _ 72 _ (by decide), hm _ 73 _ (by decide), hm _ 72 _ (by decide), hm _ 4 _ (by decide), hm _ 71 _ (by decide), hm _ 4 _ (by decide), hm _ 69 _ (by decide), hm _ 70 _ (by decide), hm _ 69 _ (by decide), hm _ 4 _ (by decide), hm _ 4 _ (by decide), hm _ 47 _ (by decide), hm _ 68 _ (by decide), hm _ 47 _ (by decide), hm _ 58 _ (by decide), hm _ 67 _ (by decide), hm _ 58 _ (by decide), hm _ 66 _ (by decide), hm _ 58 _ (by decide), hm _ 65 _ (by decide), hm _ 58 _ (by decide), hm _ 64 _ (by decide), hm _ 58 _ (by decide), hm _ 63 _ (by decide), hm _ 58 _ (by decide), hm _ 62 _ (by decide), hm _ 58 _ (by decide), hm _ 61 _ (by decide), hm _ 58 _ (by decide), hm _ 60 _ (by decide), hm _ 58 _ (by decide), hm _ 59 _ (by decide), hm _ 58 _ (by decide), hm _ 47 _ (by decide), hm _ 48 _ (by decide), hm _ 57 _ (by decide), hm _ 48 _ (by decide), hm _ 56 _ (by decide), hm _ 48 _ (by decide), hm _ 55 _ (by decide), hm _ 48 _ (by decide), hm _ 54 _ (by decide), hm _ 48 _ (by decide), hm _ 53 _ (by decide), hm _ 48 _ (by decide), hm _ 52 _ (by decide), hm _ 48 _ (by decide), hm _ 51 _ (by decide), hm _ 48 _ (by decide), hm _ 50 _ (by decide), hm _ 48 _ (by decide), hm _ 49 _ (by decide), hm _ 48 _ (by decide), hm _ 47 _ (by decide), hm _ 4 _ (by decide), hm _ 21 _ (by decide)]
    show (if k = 22 then _ else if 22 < k ∧ k < 47 then _ else _) = _
    rw [if_neg (show ¬ k = 22 by omega), if_neg (show ¬ (22 < k ∧ k < 47) by omega), hm _ 21 _ (by decide), hm _ 4 _ (by decide), hm _ 9 _ (by decide), hm _ 20 _ (by decide), hm _ 9 _ (by decide), hm _ 10 _ (by decide), hm _ 19 _ (by decide), hm _ 10 _ (by decide), hm _ 18 _ (by decide), hm _ 10 _ (by decide), hm _ 17 _ (by decide), hm _ 10 _ (by decide), hm _ 16 _ (by decide), hm _ 10 _ (by decide), hm _ 15 _ (by decide), hm _ 10 _ (by decide), hm _ 14 _ (by decide), hm _ 10 _ (by decide), hm _ 13 _ (by decide), hm _ 10 _ (by decide), hm _ 12 _ (by decide), hm _ 10 _ (by decide), hm _ 11 _ (by decide), hm _ 10 _ (by decide), hm _ 9 _ (by decide), hm _ 4 _ (by decide), hm _ 5 _ (by decide), hm _ 8 _ (by decide), hm _ 5 _ (by decide), hm _ 7 _ (by decide), hm _ 5 _ (by decide), hm _ 6 _ (by decide), hm _ 5 _ (by decide), hm _ 4 _ (by decide)]
    show Sum.inl (false, if k = 0 then Ln else 6) = _
    rw [if_neg (show ¬ k = 0 by omega)]
def stI (xs : Nat → Int) : mmSt := fun a j => if a = 0 then xs j else if (a = 8 ∨ a = 93) ∧ j < 8 then -1 else ro_tab a j
