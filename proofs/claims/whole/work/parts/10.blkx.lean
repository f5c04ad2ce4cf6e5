def layT (Ln : Nat) : Nat → mmC := fun k => (bif Nat.ble k 52 then (bif Nat.ble k 25 then (bif Nat.ble k 12 then (bif Nat.ble k 5 then (bif Nat.ble k 2 then (bif Nat.ble k 0 then .inl (false, Ln) else (bif Nat.ble k 1 then .inl (false, 6) else .inl (false, 6))) else (bif Nat.ble k 3 then .inl (false, 6) else (bif Nat.ble k 4 then .inr (.inr (6, [some (some 5), some (some 9), some (some 21), some (some 47), some (some 48), some (some 69), some (some 71), none])) else .inr (.inr (4, [some (some 6), some (some 7), some (some 8)]))))) else (bif Nat.ble k 8 then (bif Nat.ble k 6 then .inl (false, 320) else (bif Nat.ble k 7 then .inl (false, 8) else .inl (false, 8))) else (bif Nat.ble k 10 then (bif Nat.ble k 9 then .inr (.inr (3, [some (some 10), none, none, some (some 20), none, none])) else .inr (.inr (2, [none, none, none, none, some (some 11), some (some 12), some (some 13), some (some 14), some (some 15), some (some 16), some (some 17), some (some 18), none, none, some (some 19)]))) else (bif Nat.ble k 11 then .inl (false, 7) else .inl (false, 7))))) else (bif Nat.ble k 18 then (bif Nat.ble k 15 then (bif Nat.ble k 13 then .inl (false, 7) else (bif Nat.ble k 14 then .inl (false, 7) else .inl (false, 5))) else (bif Nat.ble k 16 then .inl (false, 5) else (bif Nat.ble k 17 then .inl (false, 5) else .inl (false, 5)))) else (bif Nat.ble k 21 then (bif Nat.ble k 19 then .inl (false, 5) else (bif Nat.ble k 20 then .inl (false, 120) else .inr (.inr (0, [none, some (some 22), none])))) else (bif Nat.ble k 23 then (bif Nat.ble k 22 then .inr (.inl (1, [some 23, some 24, some 25, some 26, some 27, some 28, some 29, some 30, some 31, some 32, some 33, some 34, some 35, some 36, some 37, some 38, some 39, some 40, some 41, some 42, some 43, some 44, some 45, some 46])) else .inl (false, 25)) else (bif Nat.ble k 24 then .inl (false, 25) else .inl (false, 25)))))) else (bif Nat.ble k 38 then (bif Nat.ble k 31 then (bif Nat.ble k 28 then (bif Nat.ble k 26 then .inl (false, 25) else (bif Nat.ble k 27 then .inl (false, 25) else .inl (false, 25))) else (bif Nat.ble k 29 then .inl (false, 25) else (bif Nat.ble k 30 then .inl (false, 25) else .inl (false, 25)))) else (bif Nat.ble k 34 then (bif Nat.ble k 32 then .inl (false, 25) else (bif Nat.ble k 33 then .inl (false, 25) else .inl (false, 25))) else (bif Nat.ble k 36 then (bif Nat.ble k 35 then .inl (false, 25) else .inl (false, 25)) else (bif Nat.ble k 37 then .inl (false, 25) else .inl (false, 25))))) else (bif Nat.ble k 45 then (bif Nat.ble k 41 then (bif Nat.ble k 39 then .inl (false, 25) else (bif Nat.ble k 40 then .inl (false, 25) else .inl (false, 25))) else (bif Nat.ble k 43 then (bif Nat.ble k 42 then .inl (false, 25) else .inl (false, 25)) else (bif Nat.ble k 44 then .inl (false, 25) else .inl (false, 25)))) else (bif Nat.ble k 48 then (bif Nat.ble k 46 then .inl (false, 25) else (bif Nat.ble k 47 then .inr (.inr (5, [some (some 48), some (some 58), some (some 68)])) else .inr (.inr (2, [none, none, none, none, some (some 49), some (some 50), some (some 51), some (some 52), some (some 53), some (some 54), some (some 55), some (some 56), none, none, some (some 57)])))) else (bif Nat.ble k 50 then (bif Nat.ble k 49 then .inl (false, 7) else .inl (false, 7)) else (bif Nat.ble k 51 then .inl (false, 7) else .inl (false, 7))))))) else (bif Nat.ble k 78 then (bif Nat.ble k 65 then (bif Nat.ble k 58 then (bif Nat.ble k 55 then (bif Nat.ble k 53 then .inl (false, 5) else (bif Nat.ble k 54 then .inl (false, 5) else .inl (false, 5))) else (bif Nat.ble k 56 then .inl (false, 5) else (bif Nat.ble k 57 then .inl (false, 5) else .inr (.inr (2, [none, none, none, none, some (some 59), some (some 60), some (some 61), some (some 62), some (some 63), some (some 64), some (some 65), some (some 66), none, none, some (some 67)]))))) else (bif Nat.ble k 61 then (bif Nat.ble k 59 then .inl (false, 7) else (bif Nat.ble k 60 then .inl (false, 7) else .inl (false, 7))) else (bif Nat.ble k 63 then (bif Nat.ble k 62 then .inl (false, 7) else .inl (false, 5)) else (bif Nat.ble k 64 then .inl (false, 5) else .inl (false, 5))))) else (bif Nat.ble k 71 then (bif Nat.ble k 68 then (bif Nat.ble k 66 then .inl (false, 5) else (bif Nat.ble k 67 then .inl (false, 5) else .inl (false, 12))) else (bif Nat.ble k 69 then .inr (.inr (1, [some (some 70), none])) else (bif Nat.ble k 70 then .inl (false, 16) else .inr (.inl (0, [some 72, some 82]))))) else (bif Nat.ble k 74 then (bif Nat.ble k 72 then .inr (.inr (2, [none, none, none, none, some (some 73), some (some 74), some (some 75), some (some 76), some (some 77), some (some 78), some (some 79), some (some 80), none, none, some (some 81)])) else (bif Nat.ble k 73 then .inl (false, 7) else .inl (false, 7))) else (bif Nat.ble k 76 then (bif Nat.ble k 75 then .inl (false, 7) else .inl (false, 7)) else (bif Nat.ble k 77 then .inl (false, 5) else .inl (false, 5)))))) else (bif Nat.ble k 91 then (bif Nat.ble k 84 then (bif Nat.ble k 81 then (bif Nat.ble k 79 then .inl (false, 5) else (bif Nat.ble k 80 then .inl (false, 5) else .inl (false, 5))) else (bif Nat.ble k 82 then .inr (.inr (2, [none, none, none, none, some (some 83), some (some 84), some (some 85), some (some 86), some (some 87), some (some 88), some (some 89), some (some 90), none, none, some (some 91)])) else (bif Nat.ble k 83 then .inl (false, 7) else .inl (false, 7)))) else (bif Nat.ble k 87 then (bif Nat.ble k 85 then .inl (false, 7) else (bif Nat.ble k 86 then .inl (false, 7) else .inl (false, 5))) else (bif Nat.ble k 89 then (bif Nat.ble k 88 then .inl (false, 5) else .inl (false, 5)) else (bif Nat.ble k 90 then .inl (false, 5) else .inl (false, 5))))) else (bif Nat.ble k 98 then (bif Nat.ble k 94 then (bif Nat.ble k 92 then .inr (.inr (7, [none, none, some (some 93), some (some 94), some (some 95), some (some 96), some (some 97), some (some 98), some (some 99), none, some (some 100), none, none, none, none, none, none, none, none, none, none, none, some (some 101), some (some 102), some (some 103), some (some 104), none])) else (bif Nat.ble k 93 then .inl (false, 8) else .inl (false, 8))) else (bif Nat.ble k 96 then (bif Nat.ble k 95 then .inl (false, 320) else .inl (false, 52)) else (bif Nat.ble k 97 then .inl (false, 52) else .inl (false, 52)))) else (bif Nat.ble k 101 then (bif Nat.ble k 99 then .inl (false, 1248) else (bif Nat.ble k 100 then .inl (false, 120) else .inl (false, 5))) else (bif Nat.ble k 103 then (bif Nat.ble k 102 then .inl (true, 2) else .inl (false, 104)) else (bif Nat.ble k 104 then .inl (false, 16) else .inl (false, 6))))))))
def lyT (Ln : Nat) : mmL := (105, 3489, layT Ln)
def cnty (a : Nat) : Prop := a = 10 ∨ a = 48 ∨ a = 58 ∨ a = 72 ∨ a = 82
def mrow (r : Nat) : Prop := r = 96 ∨ r = 98
def mpage (p : Nat) : Prop := p = 23 ∨ p = 24 ∨ p = 25 ∨ p = 26 ∨ p = 27 ∨ p = 28 ∨ p = 29 ∨ p = 30 ∨ p = 31 ∨ p = 32 ∨ p = 33 ∨ p = 34 ∨ p = 35 ∨ p = 36 ∨ p = 37 ∨ p = 38 ∨ p = 39 ∨ p = 40 ∨ p = 41 ∨ p = 42 ∨ p = 43 ∨ p = 44 ∨ p = 45 ∨ p = 46
def bpair (a b : Nat) : Prop := (a = 48 ∧ b = 10) ∨ (a = 58 ∧ b = 48) ∨ (a = 72 ∧ b = 48) ∨ (a = 82 ∧ b = 48) ∨ (a = 48 ∧ b = 72) ∨ (a = 48 ∧ b = 82)
/-! java/lang/Integer.bitCount(I)I: method 0; stops [] -/
theorem b_Int_bitCount (Ln d : Nat) (σ : mmSt) (x0 : Int) : srun (lyT Ln) ((d + 1), 0, 0, [mI x0], [], σ) =
 some (σ, (mand (mwrap ((mwrap ((mand (mwrap ((mwrap ((mand (mwrap (x0 - (mand (mushr x0 1) 1431655765))) 858993459) + (mand (mushr (mwrap (x0 - (mand (mushr x0 1) 1431655765))) 2) 858993459))) + (mushr (mwrap ((mand (mwrap (x0 - (mand (mushr x0 1) 1431655765))) 858993459) + (mand (mushr (mwrap (x0 - (mand (mushr x0 1) 1431655765))) 2) 858993459))) 4))) 252645135) + (mushr (mand (mwrap ((mwrap ((mand (mwrap (x0 - (mand (mushr x0 1) 1431655765))) 858993459) + (mand (mushr (mwrap (x0 - (mand (mushr x0 1) 1431655765))) 2) 858993459))) + (mushr (mwrap ((mand (mwrap (x0 - (mand (mushr x0 1) 1431655765))) 858993459) + (mand (mushr (mwrap (x0 - (mand (mushr x0 1) 1431655765))) 2) 858993459))) 4))) 252645135) 8))) + (mushr (mwrap ((mand (mwrap ((mwrap ((mand (mwrap (x0 - (mand (mushr x0 1) 1431655765))) 858993459) + (mand (mushr (mwrap (x0 - (mand (mushr x0 1) 1431655765))) 2) 858993459))) + (mushr (mwrap ((mand (mwrap (x0 - (mand (mushr x0 1) 1431655765))) 858993459) + (mand (mushr (mwrap (x0 - (mand (mushr x0 1) 1431655765))) 2) 858993459))) 4))) 252645135) + (mushr (mand (mwrap ((mwrap ((mand (mwrap (x0 - (mand (mushr x0 1) 1431655765))) 858993459) + (mand (mushr (mwrap (x0 - (mand (mushr x0 1) 1431655765))) 2) 858993459))) + (mushr (mwrap ((mand (mwrap (x0 - (mand (mushr x0 1) 1431655765))) 858993459) + (mand (mushr (mwrap (x0 - (mand (mushr x0 1) 1431655765))) 2) 858993459))) 4))) 252645135) 8))) 16))) 63)) := by
  exact (srun_unr _ [] 42 _).trans rfl
/-! GridQuarrels$Acts.forget()V: method 4; stops [] -/
theorem b_Acts_forget (Ln d : Nat) (σ : mmSt) : srun (lyT Ln) ((d + 1), 4, 0, [mR 21], [], σ) =
 some ((mup σ 21 0 0), 0) := by
  exact (srun_unr _ [] 4 _).trans rfl
/-! GridQuarrels$Acts.keep(LGridQuarrels$County;)V: method 5; stops [5, 6] -/
theorem b_Acts_keep (Ln d : Nat) (σ : mmSt) : srun (lyT Ln) ((d + 1), 5, 0, [mR 21, mR 48], [], σ) =
 srun (lyT Ln) ((d + 1), 5, 5, [mR 21, mR 48], [mI (σ 21 2), mR 22, mR 48], σ) := by
  exact (srun_unr _ [5, 6] 5 _).trans rfl
theorem b_Acts_keep_6 (Ln d : Nat) (σ : mmSt) (pg : Nat) (hp : mpage pg) : srun (lyT Ln) ((d + 1), 5, 6, [mR 21, mR 48], [mR pg, mR 48], σ) =
 (Option.bind (srun (lyT Ln) (d, 25, 0, [mR 48, mR pg], [], σ)) (fun y1 =>
 (bif decide (24 ≤ (mwrap ((y1.1 21 2) + 1))) then
  some ((mup (mup y1.1 21 2 0) 21 0 (mmini 24 (mwrap (((mup y1.1 21 2 0) 21 0) + 1)))), 0)
 else
  some ((mup (mup y1.1 21 2 (mwrap ((y1.1 21 2) + 1))) 21 0 (mmini 24 (mwrap (((mup y1.1 21 2 (mwrap ((y1.1 21 2) + 1))) 21 0) + 1)))), 0)))) := by
  rcases hp with rfl | rfl | rfl | rfl | rfl | rfl | rfl | rfl | rfl | rfl | rfl | rfl | rfl | rfl | rfl | rfl | rfl | rfl | rfl | rfl | rfl | rfl | rfl | rfl <;> exact (srun_unr _ [5, 6] 23 _).trans rfl
/-! GridQuarrels$Acts.takeBack(LGridQuarrels$County;)V: method 6; stops [26, 27] -/
theorem b_Acts_takeBack (Ln d : Nat) (σ : mmSt) : srun (lyT Ln) ((d + 1), 6, 0, [mR 21, mR 48], [], σ) =
 (bif decide (¬ (σ 21 0) = 0) then
  (bif decide ((σ 21 2) ≤ 0) then
   srun (lyT Ln) ((d + 1), 6, 26, [mR 21, mR 48], [mI ((mup (mup σ 21 2 23) 21 0 (mwrap (((mup σ 21 2 23) 21 0) - 1))) 21 2), mR 22, mR 48], (mup (mup σ 21 2 23) 21 0 (mwrap (((mup σ 21 2 23) 21 0) - 1))))
  else
   srun (lyT Ln) ((d + 1), 6, 26, [mR 21, mR 48], [mI ((mup (mup σ 21 2 (mwrap ((σ 21 2) - 1))) 21 0 (mwrap (((mup σ 21 2 (mwrap ((σ 21 2) - 1))) 21 0) - 1))) 21 2), mR 22, mR 48], (mup (mup σ 21 2 (mwrap ((σ 21 2) - 1))) 21 0 (mwrap (((mup σ 21 2 (mwrap ((σ 21 2) - 1))) 21 0) - 1)))))
 else
  some (σ, 0)) := by
  exact (srun_unr _ [26, 27] 24 _).trans rfl
theorem b_Acts_takeBack_27 (Ln d : Nat) (σ : mmSt) (pg : Nat) (hp : mpage pg) : srun (lyT Ln) ((d + 1), 6, 27, [mR 21, mR 48], [mR pg, mR 48], σ) =
 (Option.bind (srun (lyT Ln) (d, 26, 0, [mR 48, mR pg], [], σ)) (fun y1 =>
 some (y1.1, 0))) := by
  rcases hp with rfl | rfl | rfl | rfl | rfl | rfl | rfl | rfl | rfl | rfl | rfl | rfl | rfl | rfl | rfl | rfl | rfl | rfl | rfl | rfl | rfl | rfl | rfl | rfl <;> exact (srun_unr _ [26, 27] 2 _).trans rfl
/-! GridQuarrels$Asker.answer(LGridQuarrels$County;II)I: method 8; stops [] -/
theorem b_Asker_answer (Ln d : Nat) (σ : mmSt) (x1 x2 : Int) : srun (lyT Ln) ((d + 1), 8, 0, [mR 69, mR 48, mI x1, mI x2], [], σ) =
 (Option.bind (srun (lyT Ln) (d, 10, 0, [mR 69, mR 48, mI x2, mI x1, mI 0], [], (mup σ 69 1 0))) (fun y1 =>
 some (y1.1, y1.2))) := by
  exact (srun_unr _ [] 10 _).trans rfl
/-! GridQuarrels$Asker.leftAt(I)I: method 9; stops [] -/
theorem b_Asker_leftAt (Ln d : Nat) (σ : mmSt) (x0 : Int) : srun (lyT Ln) ((d + 1), 9, 0, [mR 69, mI x0], [], σ) =
 (Option.bind (srun (lyT Ln) (d, 150, 0, [mI x0, mI 0, mI (mwrap ((σ 69 1) - 1))], [], σ)) (fun y1 =>
 (bif decide (y1.2 = 0) then
  some (y1.1, (-1000000))
 else
  (bif minb x0 16 then
  some (y1.1, (y1.1 70 (Int.toNat x0)))
  else none)))) := by
  exact (srun_unr _ [] 14 _).trans rfl
/-! GridQuarrels$Asker.begin(LGridQuarrels$County;III)I: method 10; stops [] -/
theorem b_Asker_begin (Ln d : Nat) (σ : mmSt) (x1 x2 x3 : Int) : srun (lyT Ln) ((d + 1), 10, 0, [mR 69, mR 48, mI x1, mI x2, mI x3], [], σ) =
 (bif minb x2 5 then
 (Option.bind (srun (lyT Ln) (d, 11, 0, [mI x1, mI (σ 53 (Int.toNat x2)), mJ, mJ, mJ], [], σ)) (fun y1 =>
 (Option.bind (srun (lyT Ln) (d, 13, 0, [mR 69, mR 48, mI y1.2, mI x2, mI x3, mJ], [], y1.1)) (fun y2 =>
 some (y2.1, y2.2)))))
 else none) := by
  exact (srun_unr _ [] 12 _).trans rfl
/-! GridQuarrels$Asker.bodyFor(II)I: method 11; stops [10] -/
theorem b_Asker_bodyFor (Ln d : Nat) (σ : mmSt) (x0 x1 : Int) : srun (lyT Ln) ((d + 1), 11, 0, [mI x0, mI x1, mJ, mJ, mJ], [], σ) =
 (bif decide (¬ x0 = 0) then
  srun (lyT Ln) ((d + 1), 11, 10, [mI x0, mI x1, mR 3, mI x1, mI 0], [], σ)
 else
  srun (lyT Ln) ((d + 1), 11, 10, [mI x0, mI x1, mR 2, mI x1, mI 0], [], σ)) := by
  exact (srun_unr _ [10] 9 _).trans rfl
theorem b_Asker_bodyFor_10 (Ln d : Nat) (σ : mmSt) (z0 z1 z3 z4 : Int) (mb : Nat) (hm : mb = 2 ∨ mb = 3) : srun (lyT Ln) ((d + 1), 11, 10, [mI z0, mI z1, mR mb, mI z3, mI z4], [], σ) =
 (bif decide (5 ≤ z4) then
  (bif minb z3 6 then
  some (σ, (σ mb (Int.toNat z3)))
  else none)
 else
  (bif minb z3 6 then
  (bif decide (¬ (σ mb (Int.toNat z3)) = 0) then
   (bif minb z3 6 then
   some (σ, (σ mb (Int.toNat z3)))
   else none)
  else
   (bif minb z3 6 then
   srun (lyT Ln) ((d + 1), 11, 10, [mI z0, mI z1, mR mb, mI (σ 1 (Int.toNat z3)), mI (mwrap (z4 + 1))], [], σ)
   else none))
  else none)) := by
  rcases hm with rfl | rfl <;> exact (srun_unr _ [10] 13 _).trans rfl
/-! GridQuarrels$Asker.leave(I)V: method 12; stops [] -/
theorem b_Asker_leave (Ln d : Nat) (σ : mmSt) (x0 : Int) : srun (lyT Ln) ((d + 1), 12, 0, [mR 69, mI x0], [], σ) =
 (bif decide (16 ≤ (σ 69 1)) then
  some (σ, 0)
 else
  (bif minb (σ 69 1) 16 then
  some ((mup (mup σ 70 (Int.toNat (σ 69 1)) x0) 69 1 (mwrap (((mup σ 70 (Int.toNat (σ 69 1)) x0) 69 1) + 1))), 0)
  else none)) := by
  exact (srun_unr _ [] 17 _).trans rfl
/-! GridQuarrels$Asker.give(LGridQuarrels$County;III)I: method 13; stops [] -/
theorem b_Asker_give (Ln d : Nat) (σ : mmSt) (x1 x2 x3 : Int) : srun (lyT Ln) ((d + 1), 13, 0, [mR 69, mR 48, mI x1, mI x2, mI x3, mJ], [], σ) =
 (bif decide (x3 ≤ 20) then
  (Option.bind (srun (lyT Ln) (d, 12, 0, [mR 69, mI x1], [], σ)) (fun y1 =>
  (bif decide (x1 = 10) then
  (bif minb x2 5 then
   some (y1.1, (y1.1 55 (Int.toNat x2)))
   else none)
  else
  (bif decide (x1 = 11) then
  (Option.bind (srun (lyT Ln) (d, 13, 0, [mR 69, mR 48, mI 10, mI x2, mI (mwrap (x3 + 1)), mJ], [], y1.1)) (fun y10 =>
   (Option.bind (srun (lyT Ln) (d, 10, 0, [mR 69, mR 48, mI 1, mI x2, mI (mwrap (x3 + 1))], [], y10.1)) (fun y11 =>
   some (y11.1, (mwrap (y10.2 + y11.2)))))))
  else
  (bif decide (x1 = 12) then
  (Option.bind (srun (lyT Ln) (d, 13, 0, [mR 69, mR 48, mI 11, mI x2, mI (mwrap (x3 + 1)), mJ], [], y1.1)) (fun y9 =>
   some (y9.1, (mwrap (-y9.2)))))
  else
  (bif decide (x1 = 13) then
  (Option.bind (srun (lyT Ln) (d, 13, 0, [mR 69, mR 48, mI 10, mI x2, mI (mwrap (x3 + 1)), mJ], [], y1.1)) (fun y8 =>
   some (y8.1, (mwrap (y8.2 - 100)))))
  else
  (bif decide (x1 = 14) then
  (Option.bind (srun (lyT Ln) (d, 13, 0, [mR 69, mR 48, mI 13, mI x2, mI (mwrap (x3 + 1)), mJ], [], y1.1)) (fun y7 =>
   some (y7.1, (mwrap (2 * y7.2)))))
  else
  (bif decide (x1 = 15) then
  some (y1.1, 0)
  else
  (bif decide (x1 = 16) then
  some (y1.1, 0)
  else
  (bif decide (x1 = 17) then
  some (y1.1, 0)
  else
  (bif decide (x1 = 18) then
  some (y1.1, 0)
  else
  (bif decide (x1 = 19) then
  some (y1.1, 0)
  else
  (bif decide (x1 = 20) then
  some (y1.1, x2)
  else
  (bif decide (x1 = 21) then
  (Option.bind (srun (lyT Ln) (d, 13, 0, [mR 69, mR 48, mI 20, mI x2, mI (mwrap (x3 + 1)), mJ], [], y1.1)) (fun y6 =>
   (bif minb x2 5 then
   some (y6.1, (mwrap (y6.2 + (y6.1 54 (Int.toNat x2)))))
   else none)))
  else
  (bif decide (x1 = 22) then
  (Option.bind (srun (lyT Ln) (d, 13, 0, [mR 69, mR 48, mI 21, mI x2, mI (mwrap (x3 + 1)), mJ], [], y1.1)) (fun y5 =>
   some (y5.1, (mwrap (y5.2 - 1000)))))
  else
  (bif decide (x1 = 23) then
  (Option.bind (srun (lyT Ln) (d, 13, 0, [mR 69, mR 48, mI 20, mI x2, mI (mwrap (x3 + 1)), mJ], [], y1.1)) (fun y3 =>
   (Option.bind (srun (lyT Ln) (d, 10, 0, [mR 69, mR 48, mI 0, mI x2, mI (mwrap (x3 + 1))], [], y3.1)) (fun y4 =>
   some (y4.1, (mwrap (y3.2 - y4.2)))))))
  else
  (bif decide (x1 = 24) then
  (Option.bind (srun (lyT Ln) (d, 13, 0, [mR 69, mR 48, mI 21, mI x2, mI (mwrap (x3 + 1)), mJ], [], y1.1)) (fun y2 =>
   some (y2.1, (mwrap (2 * y2.2)))))
  else
  some (y1.1, 0))))))))))))))))))
 else
  some (σ, 0)) := by
  exact (srun_unr _ [] 26 _).trans rfl
/-! GridQuarrels$County.isTold()Z: method 15; stops [] -/
theorem b_County_isTold (Ln d : Nat) (σ : mmSt) (a : Nat) (ha : cnty a) : srun (lyT Ln) ((d + 1), 15, 0, [mR a], [], σ) =
 (bif decide ((σ a 0) ≤ 0) then
  some (σ, 0)
 else
  some (σ, 1)) := by
  rcases ha with rfl | rfl | rfl | rfl | rfl <;> exact (srun_unr _ [] 6 _).trans rfl
/-! GridQuarrels$County.isParish(I)Z: method 16; stops [] -/
theorem b_County_isParish (Ln d : Nat) (σ : mmSt) (x0 : Int) (a : Nat) (ha : cnty a) : srun (lyT Ln) ((d + 1), 16, 0, [mR a, mI x0], [], σ) =
 (Option.bind (srun (lyT Ln) (d, 150, 0, [mI x0, mI 0, mI (mwrap ((σ a 0) - 1))], [], σ)) (fun y1 =>
 (bif decide (0 ≤ y1.2) && decide (y1.2 ≤ 1) then some (y1.1, y1.2) else none))) := by
  rcases ha with rfl | rfl | rfl | rfl | rfl <;> exact (srun_unr _ [] 8 _).trans rfl
/-! GridQuarrels$County.isRoad(I)Z: method 17; stops [] -/
theorem b_County_isRoad (Ln d : Nat) (σ : mmSt) (x0 : Int) (a : Nat) (ha : cnty a) : srun (lyT Ln) ((d + 1), 17, 0, [mR a, mI x0], [], σ) =
 (Option.bind (srun (lyT Ln) (d, 150, 0, [mI x0, mI 0, mI (mwrap ((σ a 1) - 1))], [], σ)) (fun y1 =>
 (bif decide (0 ≤ y1.2) && decide (y1.2 ≤ 1) then some (y1.1, y1.2) else none))) := by
  rcases ha with rfl | rfl | rfl | rfl | rfl <;> exact (srun_unr _ [] 8 _).trans rfl
/-! GridQuarrels$County.isQuarrel(I)Z: method 18; stops [] -/
theorem b_County_isQuarrel (Ln d : Nat) (σ : mmSt) (x0 : Int) (a : Nat) (ha : cnty a) : srun (lyT Ln) ((d + 1), 18, 0, [mR a, mI x0], [], σ) =
 (Option.bind (srun (lyT Ln) (d, 150, 0, [mI x0, mI 0, mI (mwrap ((σ a 2) - 1))], [], σ)) (fun y1 =>
 (bif decide (0 ≤ y1.2) && decide (y1.2 ≤ 1) then some (y1.1, y1.2) else none))) := by
  rcases ha with rfl | rfl | rfl | rfl | rfl <;> exact (srun_unr _ [] 8 _).trans rfl
/-! GridQuarrels$County.isDead(I)Z: method 19; stops [] -/
theorem b_County_isDead (Ln d : Nat) (σ : mmSt) (x0 : Int) (a : Nat) (ha : cnty a) : srun (lyT Ln) ((d + 1), 19, 0, [mR a, mI x0], [], σ) =
 (bif minb x0 5 then
 (bif decide (¬ (σ (a + 7) (Int.toNat x0)) = 0) then
  some (σ, 0)
 else
  some (σ, 1))
 else none) := by
  rcases ha with rfl | rfl | rfl | rfl | rfl <;> exact (srun_unr _ [] 8 _).trans rfl
/-! GridQuarrels$County.clear()V: method 20; stops [] -/
theorem b_County_clear (Ln d : Nat) (σ : mmSt) (a : Nat) (ha : cnty a) : srun (lyT Ln) ((d + 1), 20, 0, [mR a], [], σ) =
 some ((mup (mup (mup (mup σ a 0 0) a 1 0) a 2 0) a 3 0), 0) := by
  rcases ha with rfl | rfl | rfl | rfl | rfl <;> exact (srun_unr _ [] 13 _).trans rfl
/-! GridQuarrels$County.addParishes(II)V: method 21; stops [5] -/
theorem b_County_addParishes (Ln d : Nat) (σ : mmSt) (x0 x1 : Int) (a : Nat) (ha : cnty a) : srun (lyT Ln) ((d + 1), 21, 0, [mR a, mI x0, mI x1, mJ], [], σ) =
 srun (lyT Ln) ((d + 1), 21, 5, [mR a, mI x0, mI x1, mI 0], [], (mup σ a 0 x0)) := by
  rcases ha with rfl | rfl | rfl | rfl | rfl <;> exact (srun_unr _ [5] 5 _).trans rfl
theorem b_County_addParishes_5 (Ln d : Nat) (σ : mmSt) (z1 z2 z3 : Int) (a : Nat) (ha : cnty a) : srun (lyT Ln) ((d + 1), 21, 5, [mR a, mI z1, mI z2, mI z3], [], σ) =
 (bif decide (7 ≤ z3) then
  some (σ, 0)
 else
  (bif decide (z1 ≤ z3) then
   (bif minb z3 7 then
   srun (lyT Ln) ((d + 1), 21, 5, [mR a, mI z1, mI z2, mI (mwrap (z3 + 1))], [], (mup σ (a + 1) (Int.toNat z3) 0))
   else none)
  else
   (bif minb z3 7 then
   srun (lyT Ln) ((d + 1), 21, 5, [mR a, mI z1, mI z2, mI (mwrap (z3 + 1))], [], (mup σ (a + 1) (Int.toNat z3) z2))
   else none))) := by
  rcases ha with rfl | rfl | rfl | rfl | rfl <;> exact (srun_unr _ [5] 14 _).trans rfl
/-! GridQuarrels$County.addRoad(III)V: method 22; stops [] -/
theorem b_County_addRoad (Ln d : Nat) (σ : mmSt) (x0 x1 x2 : Int) (a : Nat) (ha : cnty a) : srun (lyT Ln) ((d + 1), 22, 0, [mR a, mI x0, mI x1, mI x2], [], σ) =
 (bif decide ((σ a 1) < 7) then
  (bif minb (σ a 1) 7 then
  (bif minb ((mup σ (a + 2) (Int.toNat (σ a 1)) x0) a 1) 7 then
  (bif minb ((mup (mup σ (a + 2) (Int.toNat (σ a 1)) x0) (a + 3) (Int.toNat ((mup σ (a + 2) (Int.toNat (σ a 1)) x0) a 1)) x1) a 1) 7 then
  some ((mup (mup (mup (mup σ (a + 2) (Int.toNat (σ a 1)) x0) (a + 3) (Int.toNat ((mup σ (a + 2) (Int.toNat (σ a 1)) x0) a 1)) x1) (a + 4) (Int.toNat ((mup (mup σ (a + 2) (Int.toNat (σ a 1)) x0) (a + 3) (Int.toNat ((mup σ (a + 2) (Int.toNat (σ a 1)) x0) a 1)) x1) a 1)) x2) a 1 (mwrap (((mup (mup (mup σ (a + 2) (Int.toNat (σ a 1)) x0) (a + 3) (Int.toNat ((mup σ (a + 2) (Int.toNat (σ a 1)) x0) a 1)) x1) (a + 4) (Int.toNat ((mup (mup σ (a + 2) (Int.toNat (σ a 1)) x0) (a + 3) (Int.toNat ((mup σ (a + 2) (Int.toNat (σ a 1)) x0) a 1)) x1) a 1)) x2) a 1) + 1))), 0)
  else none)
  else none)
  else none)
 else
  some (σ, 0)) := by
  rcases ha with rfl | rfl | rfl | rfl | rfl <;> exact (srun_unr _ [] 29 _).trans rfl
/-! GridQuarrels$County.addQuarrel(IIII)V: method 23; stops [] -/
theorem b_County_addQuarrel (Ln d : Nat) (σ : mmSt) (x0 x1 x2 x3 : Int) (a : Nat) (ha : cnty a) : srun (lyT Ln) ((d + 1), 23, 0, [mR a, mI x0, mI x1, mI x2, mI x3], [], σ) =
 (bif decide ((σ a 2) < 5) then
  (bif minb (σ a 2) 5 then
  (bif minb ((mup σ (a + 5) (Int.toNat (σ a 2)) x0) a 2) 5 then
  (bif minb ((mup (mup σ (a + 5) (Int.toNat (σ a 2)) x0) (a + 6) (Int.toNat ((mup σ (a + 5) (Int.toNat (σ a 2)) x0) a 2)) x1) a 2) 5 then
  (bif minb ((mup (mup (mup σ (a + 5) (Int.toNat (σ a 2)) x0) (a + 6) (Int.toNat ((mup σ (a + 5) (Int.toNat (σ a 2)) x0) a 2)) x1) (a + 7) (Int.toNat ((mup (mup σ (a + 5) (Int.toNat (σ a 2)) x0) (a + 6) (Int.toNat ((mup σ (a + 5) (Int.toNat (σ a 2)) x0) a 2)) x1) a 2)) x2) a 2) 5 then
  some ((mup (mup (mup (mup (mup σ (a + 5) (Int.toNat (σ a 2)) x0) (a + 6) (Int.toNat ((mup σ (a + 5) (Int.toNat (σ a 2)) x0) a 2)) x1) (a + 7) (Int.toNat ((mup (mup σ (a + 5) (Int.toNat (σ a 2)) x0) (a + 6) (Int.toNat ((mup σ (a + 5) (Int.toNat (σ a 2)) x0) a 2)) x1) a 2)) x2) (a + 8) (Int.toNat ((mup (mup (mup σ (a + 5) (Int.toNat (σ a 2)) x0) (a + 6) (Int.toNat ((mup σ (a + 5) (Int.toNat (σ a 2)) x0) a 2)) x1) (a + 7) (Int.toNat ((mup (mup σ (a + 5) (Int.toNat (σ a 2)) x0) (a + 6) (Int.toNat ((mup σ (a + 5) (Int.toNat (σ a 2)) x0) a 2)) x1) a 2)) x2) a 2)) x3) a 2 (mwrap (((mup (mup (mup (mup σ (a + 5) (Int.toNat (σ a 2)) x0) (a + 6) (Int.toNat ((mup σ (a + 5) (Int.toNat (σ a 2)) x0) a 2)) x1) (a + 7) (Int.toNat ((mup (mup σ (a + 5) (Int.toNat (σ a 2)) x0) (a + 6) (Int.toNat ((mup σ (a + 5) (Int.toNat (σ a 2)) x0) a 2)) x1) a 2)) x2) (a + 8) (Int.toNat ((mup (mup (mup σ (a + 5) (Int.toNat (σ a 2)) x0) (a + 6) (Int.toNat ((mup σ (a + 5) (Int.toNat (σ a 2)) x0) a 2)) x1) (a + 7) (Int.toNat ((mup (mup σ (a + 5) (Int.toNat (σ a 2)) x0) (a + 6) (Int.toNat ((mup σ (a + 5) (Int.toNat (σ a 2)) x0) a 2)) x1) a 2)) x2) a 2)) x3) a 2) + 1))), 0)
  else none)
  else none)
  else none)
  else none)
 else
  some (σ, 0)) := by
  rcases ha with rfl | rfl | rfl | rfl | rfl <;> exact (srun_unr _ [] 35 _).trans rfl
/-! GridQuarrels$County.become(LGridQuarrels$County;)V: method 24; stops [88] -/
set_option maxRecDepth 100000 in
theorem b_County_become (Ln d : Nat) (σ : mmSt) (a b : Nat) (hab : bpair a b) : srun (lyT Ln) ((d + 1), 24, 0, [mR a, mR b, mJ], [], σ) =
 srun (lyT Ln) ((d + 1), 24, 88, [mR a, mR b, mI 0], [], (mup (mup (mcpy (mcpy (mcpy (mcpy (mcpy (mcpy (mcpy (mcpy (mup (mup (mup (mup σ a 0 (σ b 0)) a 1 ((mup σ a 0 (σ b 0)) b 1)) a 2 ((mup (mup σ a 0 (σ b 0)) a 1 ((mup σ a 0 (σ b 0)) b 1)) b 2)) a 3 ((mup (mup (mup σ a 0 (σ b 0)) a 1 ((mup σ a 0 (σ b 0)) b 1)) a 2 ((mup (mup σ a 0 (σ b 0)) a 1 ((mup σ a 0 (σ b 0)) b 1)) b 2)) b 3)) (b + 1) 0 (a + 1) 0 7) (b + 2) 0 (a + 2) 0 7) (b + 3) 0 (a + 3) 0 7) (b + 4) 0 (a + 4) 0 7) (b + 5) 0 (a + 5) 0 5) (b + 6) 0 (a + 6) 0 5) (b + 7) 0 (a + 7) 0 5) (b + 8) 0 (a + 8) 0 5) a 12 0) a 13 0)) := by
  rcases hab with ⟨rfl, rfl⟩ | ⟨rfl, rfl⟩ | ⟨rfl, rfl⟩ | ⟨rfl, rfl⟩ | ⟨rfl, rfl⟩ | ⟨rfl, rfl⟩ <;> exact (srun_unr _ [88] 88 _).trans rfl
theorem b_County_become_88 (Ln d : Nat) (σ : mmSt) (z2 : Int) (a b : Nat) (hab : bpair a b) : srun (lyT Ln) ((d + 1), 24, 88, [mR a, mR b, mI z2], [], σ) =
 (bif decide (5 ≤ z2) then
  some (σ, 0)
 else
  (bif minb z2 5 then
  srun (lyT Ln) ((d + 1), 24, 88, [mR a, mR b, mI (mwrap (z2 + 1))], [], (mup σ (a + 9) (Int.toNat z2) 0))
  else none)) := by
  rcases hab with ⟨rfl, rfl⟩ | ⟨rfl, rfl⟩ | ⟨rfl, rfl⟩ | ⟨rfl, rfl⟩ | ⟨rfl, rfl⟩ | ⟨rfl, rfl⟩ <;> exact (srun_unr _ [88] 10 _).trans rfl
/-! GridQuarrels$County.writeTo([I)V: method 25; stops [] -/
theorem b_County_writeTo (Ln d : Nat) (σ : mmSt) (a : Nat) (ha : cnty a) (pg : Nat) (hp : mpage pg) : srun (lyT Ln) ((d + 1), 25, 0, [mR a, mR pg], [], σ) =
 some ((mcpy (mcpy (mcpy (mcpy (mup σ pg 0 (σ a 3)) (a + 1) 0 pg 1 7) (a + 4) 0 pg 8 7) (a + 6) 0 pg 15 5) (a + 7) 0 pg 20 5), 0) := by
  rcases ha with rfl | rfl | rfl | rfl | rfl <;> rcases hp with rfl | rfl | rfl | rfl | rfl | rfl | rfl | rfl | rfl | rfl | rfl | rfl | rfl | rfl | rfl | rfl | rfl | rfl | rfl | rfl | rfl | rfl | rfl | rfl <;> exact (srun_unr _ [] 34 _).trans rfl
/-! GridQuarrels$County.readFrom([I)V: method 26; stops [] -/
theorem b_County_readFrom (Ln d : Nat) (σ : mmSt) (a : Nat) (ha : cnty a) (pg : Nat) (hp : mpage pg) : srun (lyT Ln) ((d + 1), 26, 0, [mR a, mR pg], [], σ) =
 some ((mcpy (mcpy (mcpy (mcpy (mup σ a 3 (σ pg 0)) pg 1 (a + 1) 0 7) pg 8 (a + 4) 0 7) pg 15 (a + 6) 0 5) pg 20 (a + 7) 0 5), 0) := by
  rcases ha with rfl | rfl | rfl | rfl | rfl <;> rcases hp with rfl | rfl | rfl | rfl | rfl | rfl | rfl | rfl | rfl | rfl | rfl | rfl | rfl | rfl | rfl | rfl | rfl | rfl | rfl | rfl | rfl | rfl | rfl | rfl <;> exact (srun_unr _ [] 34 _).trans rfl
/-! GridQuarrels$County.touches(II)Z: method 27; stops [] -/
theorem b_County_touches (Ln d : Nat) (σ : mmSt) (x0 x1 : Int) (a : Nat) (ha : cnty a) : srun (lyT Ln) ((d + 1), 27, 0, [mR a, mI x0, mI x1], [], σ) =
 (bif minb x0 7 then
 (bif decide ((σ (a + 2) (Int.toNat x0)) = x1) then
  some (σ, 1)
 else
  (bif minb x0 7 then
  (bif decide (¬ (σ (a + 3) (Int.toNat x0)) = x1) then
   some (σ, 0)
  else
   some (σ, 1))
  else none))
 else none) := by
  rcases ha with rfl | rfl | rfl | rfl | rfl <;> exact (srun_unr _ [] 15 _).trans rfl
/-! GridQuarrels$County.farEnd(II)I: method 28; stops [] -/
theorem b_County_farEnd (Ln d : Nat) (σ : mmSt) (x0 x1 : Int) (a : Nat) (ha : cnty a) : srun (lyT Ln) ((d + 1), 28, 0, [mR a, mI x0, mI x1], [], σ) =
 (bif minb x0 7 then
 (bif decide (¬ (σ (a + 2) (Int.toNat x0)) = x1) then
  (bif minb x0 7 then
  some (σ, (σ (a + 2) (Int.toNat x0)))
  else none)
 else
  (bif minb x0 7 then
  some (σ, (σ (a + 3) (Int.toNat x0)))
  else none))
 else none) := by
  rcases ha with rfl | rfl | rfl | rfl | rfl <;> exact (srun_unr _ [] 12 _).trans rfl
/-! GridQuarrels$County.crosses(II)Z: method 29; stops [] -/
theorem b_County_crosses (Ln d : Nat) (σ : mmSt) (x0 x1 : Int) (a : Nat) (ha : cnty a) : srun (lyT Ln) ((d + 1), 29, 0, [mR a, mI x0, mI x1], [], σ) =
 (bif minb x0 5 then
 (bif decide ((σ (a + 5) (Int.toNat x0)) = 2) then
 (bif minb x1 7 then
  (bif minb x0 5 then
  (bif decide ((mwrap ((σ (a + 7) (Int.toNat x0)) + 3)) ≤ (σ (a + 4) (Int.toNat x1))) then
   some (σ, 0)
  else
   some (σ, 1))
  else none)
  else none)
 else
 (bif decide ((σ (a + 5) (Int.toNat x0)) = 3) then
 (bif minb x1 7 then
  (bif decide (¬ (σ (a + 4) (Int.toNat x1)) = 0) then
   some (σ, 0)
  else
   some (σ, 1))
  else none)
 else
 (bif minb x1 7 then
 (bif minb x0 5 then
 (bif decide ((σ (a + 7) (Int.toNat x0)) ≤ (σ (a + 4) (Int.toNat x1))) then
  some (σ, 0)
 else
  some (σ, 1))
 else none)
 else none)))
 else none) := by
  rcases ha with rfl | rfl | rfl | rfl | rfl <;> exact (srun_unr _ [] 19 _).trans rfl
/-! GridQuarrels$County.wouldGo(I)Z: method 30; stops [] -/
theorem b_County_wouldGo (Ln d : Nat) (σ : mmSt) (x0 : Int) (a : Nat) (ha : cnty a) : srun (lyT Ln) ((d + 1), 30, 0, [mR a, mI x0], [], σ) =
 (bif minb x0 5 then
 (bif decide ((σ (a + 5) (Int.toNat x0)) = 4) then
  (bif minb x0 5 then
  (bif minb (σ (a + 6) (Int.toNat x0)) 7 then
  (bif decide (¬ (σ (a + 1) (Int.toNat (σ (a + 6) (Int.toNat x0)))) = 0) then
   some (σ, 0)
  else
   some (σ, 1))
  else none)
  else none)
 else
  (bif minb x0 5 then
  (bif decide (¬ (σ (a + 5) (Int.toNat x0)) = 5) then
   some (σ, 1)
  else
   (bif minb x0 5 then
   (bif minb (σ (a + 6) (Int.toNat x0)) 7 then
   (bif decide (¬ (σ (a + 1) (Int.toNat (σ (a + 6) (Int.toNat x0)))) = 0) then
    some (σ, 0)
   else
    some (σ, 1))
   else none)
   else none))
  else none))
 else none) := by
  rcases ha with rfl | rfl | rfl | rfl | rfl <;> exact (srun_unr _ [] 23 _).trans rfl
/-! GridQuarrels$County.nextPlace(I)I: method 31; stops [19] -/
theorem b_County_nextPlace (Ln d : Nat) (σ : mmSt) (x0 : Int) (a : Nat) (ha : cnty a) : srun (lyT Ln) ((d + 1), 31, 0, [mR a, mI x0, mJ, mJ, mJ], [], σ) =
 (bif minb x0 5 then
 (Option.bind (srun (lyT Ln) (d, 19, 0, [mR a, mI x0], [], σ)) (fun y1 =>
 (bif decide (¬ y1.2 = 0) then
  some (y1.1, (σ (a + 6) (Int.toNat x0)))
 else
  (Option.bind (srun (lyT Ln) (d, 30, 0, [mR a, mI x0], [], y1.1)) (fun y2 =>
  (bif decide (¬ y2.2 = 0) then
   srun (lyT Ln) ((d + 1), 31, 19, [mR a, mI x0, mI (σ (a + 6) (Int.toNat x0)), mI (σ (a + 6) (Int.toNat x0)), mI 0], [], y2.1)
  else
   some (y2.1, (σ (a + 6) (Int.toNat x0)))))))))
 else none) := by
  rcases ha with rfl | rfl | rfl | rfl | rfl <;> exact (srun_unr _ [19] 17 _).trans rfl
theorem b_County_nextPlace_19 (Ln d : Nat) (σ : mmSt) (z1 z2 z3 z4 : Int) (a : Nat) (ha : cnty a) : srun (lyT Ln) ((d + 1), 31, 19, [mR a, mI z1, mI z2, mI z3, mI z4], [], σ) =
 (bif decide ((σ a 1) ≤ z4) then
  some (σ, z3)
 else
  (Option.bind (srun (lyT Ln) (d, 27, 0, [mR a, mI z4, mI z2], [], σ)) (fun y1 =>
  (bif decide (y1.2 = 0) then
   srun (lyT Ln) ((d + 1), 31, 19, [mR a, mI z1, mI z2, mI z3, mI (mwrap (z4 + 1))], [], y1.1)
  else
   (Option.bind (srun (lyT Ln) (d, 29, 0, [mR a, mI z1, mI z4], [], y1.1)) (fun y2 =>
   (bif decide (y2.2 = 0) then
    srun (lyT Ln) ((d + 1), 31, 19, [mR a, mI z1, mI z2, mI z3, mI (mwrap (z4 + 1))], [], y2.1)
   else
    (Option.bind (srun (lyT Ln) (d, 28, 0, [mR a, mI z4, mI z2], [], y2.1)) (fun y3 =>
    (bif minb y3.2 7 then
    (bif minb z3 7 then
    (bif decide ((y3.1 (a + 1) (Int.toNat y3.2)) ≤ (y3.1 (a + 1) (Int.toNat z3))) then
     srun (lyT Ln) ((d + 1), 31, 19, [mR a, mI z1, mI z2, mI z3, mI (mwrap (z4 + 1))], [], y3.1)
    else
     (Option.bind (srun (lyT Ln) (d, 28, 0, [mR a, mI z4, mI z2], [], y3.1)) (fun y4 =>
     srun (lyT Ln) ((d + 1), 31, 19, [mR a, mI z1, mI z2, mI y4.2, mI (mwrap (z4 + 1))], [], y4.1))))
    else none)
    else none)))))))))) := by
  rcases ha with rfl | rfl | rfl | rfl | rfl <;> exact (srun_unr _ [19] 33 _).trans rfl
/-! GridQuarrels$County.passYear()V: method 32; stops [2] -/
theorem b_County_passYear (Ln d : Nat) (σ : mmSt) (a : Nat) (ha : cnty a) : srun (lyT Ln) ((d + 1), 32, 0, [mR a, mJ], [], σ) =
 srun (lyT Ln) ((d + 1), 32, 2, [mR a, mI 0], [], σ) := by
  rcases ha with rfl | rfl | rfl | rfl | rfl <;> exact (srun_unr _ [2] 2 _).trans rfl
theorem b_County_passYear_2 (Ln d : Nat) (σ : mmSt) (z1 : Int) (a : Nat) (ha : cnty a) : srun (lyT Ln) ((d + 1), 32, 2, [mR a, mI z1], [], σ) =
 (bif decide ((σ a 2) ≤ z1) then
  some ((mup σ a 3 (mwrap ((σ a 3) + 1))), 0)
 else
  (Option.bind (srun (lyT Ln) (d, 19, 0, [mR a, mI z1], [], σ)) (fun y1 =>
  (bif decide (¬ y1.2 = 0) then
   srun (lyT Ln) ((d + 1), 32, 2, [mR a, mI (mwrap (z1 + 1))], [], y1.1)
  else
   (Option.bind (srun (lyT Ln) (d, 31, 0, [mR a, mI z1, mJ, mJ, mJ], [], y1.1)) (fun y2 =>
   (Option.bind (srun (lyT Ln) (d, 33, 0, [mR a, mI z1, mI y2.2], [], y2.1)) (fun y3 =>
   (Option.bind (srun (lyT Ln) (d, 34, 0, [mR a, mI z1, mJ], [], y3.1)) (fun y4 =>
   srun (lyT Ln) ((d + 1), 32, 2, [mR a, mI (mwrap (z1 + 1))], [], y4.1))))))))))) := by
  rcases ha with rfl | rfl | rfl | rfl | rfl <;> exact (srun_unr _ [2] 19 _).trans rfl
/-! GridQuarrels$County.walk(II)V: method 33; stops [] -/
theorem b_County_walk (Ln d : Nat) (σ : mmSt) (x0 x1 : Int) (a : Nat) (ha : cnty a) : srun (lyT Ln) ((d + 1), 33, 0, [mR a, mI x0, mI x1], [], σ) =
 (bif minb x0 5 then
 (bif decide (x1 = (σ (a + 6) (Int.toNat x0))) then
  some (σ, 0)
 else
  (bif minb x0 5 then
  some ((mup (mup σ a 13 (mwrap ((σ a 13) + 1))) (a + 6) (Int.toNat x0) x1), 0)
  else none))
 else none) := by
  rcases ha with rfl | rfl | rfl | rfl | rfl <;> exact (srun_unr _ [] 18 _).trans rfl
/-! GridQuarrels$County.eatOrStarve(I)V: method 34; stops [] -/
set_option maxRecDepth 100000 in
theorem b_County_eatOrStarve (Ln d : Nat) (σ : mmSt) (x0 : Int) (a : Nat) (ha : cnty a) : srun (lyT Ln) ((d + 1), 34, 0, [mR a, mI x0, mJ], [], σ) =
 (bif minb x0 5 then
 (bif minb (σ (a + 6) (Int.toNat x0)) 7 then
 (bif decide ((σ (a + 1) (Int.toNat (σ (a + 6) (Int.toNat x0)))) ≤ 0) then
  (bif minb x0 5 then
  (bif decide (¬ (σ (a + 5) (Int.toNat x0)) = 5) then
   (bif minb x0 5 then
   (bif minb x0 5 then
   some ((mup σ (a + 7) (Int.toNat x0) (mmaxi 0 (mwrap ((σ (a + 7) (Int.toNat x0)) - 1)))), 0)
   else none)
   else none)
  else
   (bif minb x0 5 then
   (bif minb x0 5 then
   some ((mup σ (a + 7) (Int.toNat x0) (mmaxi 1 (mwrap ((σ (a + 7) (Int.toNat x0)) - 1)))), 0)
   else none)
   else none))
  else none)
 else
  (bif minb (σ (a + 6) (Int.toNat x0)) 7 then
  (bif minb (σ (a + 6) (Int.toNat x0)) 7 then
  (bif minb x0 5 then
  (bif minb x0 5 then
  (bif decide (¬ ((mup σ (a + 1) (Int.toNat (σ (a + 6) (Int.toNat x0))) (mwrap ((σ (a + 1) (Int.toNat (σ (a + 6) (Int.toNat x0)))) - 1))) (a + 5) (Int.toNat x0)) = 3) then
   (bif minb x0 5 then
   (bif minb x0 5 then
   (bif minb x0 5 then
   some ((mup (mup (mup (mup σ (a + 1) (Int.toNat (σ (a + 6) (Int.toNat x0))) (mwrap ((σ (a + 1) (Int.toNat (σ (a + 6) (Int.toNat x0)))) - 1))) (a + 7) (Int.toNat x0) (mmini 9 (mwrap (((mup σ (a + 1) (Int.toNat (σ (a + 6) (Int.toNat x0))) (mwrap ((σ (a + 1) (Int.toNat (σ (a + 6) (Int.toNat x0)))) - 1))) (a + 7) (Int.toNat x0)) + 1)))) (a + 9) (Int.toNat x0) (mwrap (((mup (mup σ (a + 1) (Int.toNat (σ (a + 6) (Int.toNat x0))) (mwrap ((σ (a + 1) (Int.toNat (σ (a + 6) (Int.toNat x0)))) - 1))) (a + 7) (Int.toNat x0) (mmini 9 (mwrap (((mup σ (a + 1) (Int.toNat (σ (a + 6) (Int.toNat x0))) (mwrap ((σ (a + 1) (Int.toNat (σ (a + 6) (Int.toNat x0)))) - 1))) (a + 7) (Int.toNat x0)) + 1)))) (a + 9) (Int.toNat x0)) + 1))) a 12 (mor ((mup (mup (mup σ (a + 1) (Int.toNat (σ (a + 6) (Int.toNat x0))) (mwrap ((σ (a + 1) (Int.toNat (σ (a + 6) (Int.toNat x0)))) - 1))) (a + 7) (Int.toNat x0) (mmini 9 (mwrap (((mup σ (a + 1) (Int.toNat (σ (a + 6) (Int.toNat x0))) (mwrap ((σ (a + 1) (Int.toNat (σ (a + 6) (Int.toNat x0)))) - 1))) (a + 7) (Int.toNat x0)) + 1)))) (a + 9) (Int.toNat x0) (mwrap (((mup (mup σ (a + 1) (Int.toNat (σ (a + 6) (Int.toNat x0))) (mwrap ((σ (a + 1) (Int.toNat (σ (a + 6) (Int.toNat x0)))) - 1))) (a + 7) (Int.toNat x0) (mmini 9 (mwrap (((mup σ (a + 1) (Int.toNat (σ (a + 6) (Int.toNat x0))) (mwrap ((σ (a + 1) (Int.toNat (σ (a + 6) (Int.toNat x0)))) - 1))) (a + 7) (Int.toNat x0)) + 1)))) (a + 9) (Int.toNat x0)) + 1))) a 12) (mshl 1 (σ (a + 6) (Int.toNat x0))))), 0)
   else none)
   else none)
   else none)
  else
   (bif minb x0 5 then
   (bif minb x0 5 then
   (bif minb x0 5 then
   some ((mup (mup (mup (mup σ (a + 1) (Int.toNat (σ (a + 6) (Int.toNat x0))) (mwrap ((σ (a + 1) (Int.toNat (σ (a + 6) (Int.toNat x0)))) - 1))) (a + 7) (Int.toNat x0) (mmini 9 (mwrap (((mup σ (a + 1) (Int.toNat (σ (a + 6) (Int.toNat x0))) (mwrap ((σ (a + 1) (Int.toNat (σ (a + 6) (Int.toNat x0)))) - 1))) (a + 7) (Int.toNat x0)) + 2)))) (a + 9) (Int.toNat x0) (mwrap (((mup (mup σ (a + 1) (Int.toNat (σ (a + 6) (Int.toNat x0))) (mwrap ((σ (a + 1) (Int.toNat (σ (a + 6) (Int.toNat x0)))) - 1))) (a + 7) (Int.toNat x0) (mmini 9 (mwrap (((mup σ (a + 1) (Int.toNat (σ (a + 6) (Int.toNat x0))) (mwrap ((σ (a + 1) (Int.toNat (σ (a + 6) (Int.toNat x0)))) - 1))) (a + 7) (Int.toNat x0)) + 2)))) (a + 9) (Int.toNat x0)) + 1))) a 12 (mor ((mup (mup (mup σ (a + 1) (Int.toNat (σ (a + 6) (Int.toNat x0))) (mwrap ((σ (a + 1) (Int.toNat (σ (a + 6) (Int.toNat x0)))) - 1))) (a + 7) (Int.toNat x0) (mmini 9 (mwrap (((mup σ (a + 1) (Int.toNat (σ (a + 6) (Int.toNat x0))) (mwrap ((σ (a + 1) (Int.toNat (σ (a + 6) (Int.toNat x0)))) - 1))) (a + 7) (Int.toNat x0)) + 2)))) (a + 9) (Int.toNat x0) (mwrap (((mup (mup σ (a + 1) (Int.toNat (σ (a + 6) (Int.toNat x0))) (mwrap ((σ (a + 1) (Int.toNat (σ (a + 6) (Int.toNat x0)))) - 1))) (a + 7) (Int.toNat x0) (mmini 9 (mwrap (((mup σ (a + 1) (Int.toNat (σ (a + 6) (Int.toNat x0))) (mwrap ((σ (a + 1) (Int.toNat (σ (a + 6) (Int.toNat x0)))) - 1))) (a + 7) (Int.toNat x0)) + 2)))) (a + 9) (Int.toNat x0)) + 1))) a 12) (mshl 1 (σ (a + 6) (Int.toNat x0))))), 0)
   else none)
   else none)
   else none))
  else none)
  else none)
  else none)
  else none))
 else none)
 else none) := by
  rcases ha with rfl | rfl | rfl | rfl | rfl <;> exact (srun_unr _ [] 55 _).trans rfl
/-! GridQuarrels$County.putHay(II)V: method 35; stops [] -/
theorem b_County_putHay (Ln d : Nat) (σ : mmSt) (x0 x1 : Int) (a : Nat) (ha : cnty a) : srun (lyT Ln) ((d + 1), 35, 0, [mR a, mI x0, mI x1], [], σ) =
 (bif minb x0 7 then
 (bif minb x0 7 then
 some ((mup σ (a + 1) (Int.toNat x0) (mmini 99 (mwrap ((σ (a + 1) (Int.toNat x0)) + x1)))), 0)
 else none)
 else none) := by
  rcases ha with rfl | rfl | rfl | rfl | rfl <;> exact (srun_unr _ [] 13 _).trans rfl
/-! GridQuarrels$County.allHay()I: method 36; stops [4] -/
theorem b_County_allHay (Ln d : Nat) (σ : mmSt) (a : Nat) (ha : cnty a) : srun (lyT Ln) ((d + 1), 36, 0, [mR a, mJ, mJ], [], σ) =
 srun (lyT Ln) ((d + 1), 36, 4, [mR a, mI 0, mI 0], [], σ) := by
  rcases ha with rfl | rfl | rfl | rfl | rfl <;> exact (srun_unr _ [4] 4 _).trans rfl
theorem b_County_allHay_4 (Ln d : Nat) (σ : mmSt) (z1 z2 : Int) (a : Nat) (ha : cnty a) : srun (lyT Ln) ((d + 1), 36, 4, [mR a, mI z1, mI z2], [], σ) =
 (bif decide ((σ a 0) ≤ z2) then
  some (σ, z1)
 else
  (bif minb z2 7 then
  srun (lyT Ln) ((d + 1), 36, 4, [mR a, mI (mwrap (z1 + (σ (a + 1) (Int.toNat z2)))), mI (mwrap (z2 + 1))], [], σ)
  else none)) := by
  rcases ha with rfl | rfl | rfl | rfl | rfl <;> exact (srun_unr _ [4] 13 _).trans rfl
/-! GridQuarrels$County.living()I: method 37; stops [4] -/
theorem b_County_living (Ln d : Nat) (σ : mmSt) (a : Nat) (ha : cnty a) : srun (lyT Ln) ((d + 1), 37, 0, [mR a, mJ, mJ], [], σ) =
 srun (lyT Ln) ((d + 1), 37, 4, [mR a, mI 0, mI 0], [], σ) := by
  rcases ha with rfl | rfl | rfl | rfl | rfl <;> exact (srun_unr _ [4] 4 _).trans rfl
theorem b_County_living_4 (Ln d : Nat) (σ : mmSt) (z1 z2 : Int) (a : Nat) (ha : cnty a) : srun (lyT Ln) ((d + 1), 37, 4, [mR a, mI z1, mI z2], [], σ) =
 (bif decide ((σ a 2) ≤ z2) then
  some (σ, z1)
 else
  (Option.bind (srun (lyT Ln) (d, 19, 0, [mR a, mI z2], [], σ)) (fun y1 =>
  (bif decide (¬ y1.2 = 0) then
   srun (lyT Ln) ((d + 1), 37, 4, [mR a, mI z1, mI (mwrap (z2 + 1))], [], y1.1)
  else
   srun (lyT Ln) ((d + 1), 37, 4, [mR a, mI (mwrap (z1 + 1)), mI (mwrap (z2 + 1))], [], y1.1))))) := by
  rcases ha with rfl | rfl | rfl | rfl | rfl <;> exact (srun_unr _ [4] 11 _).trans rfl
/-! GridQuarrels$County.livesIn(II)Z: method 38; stops [] -/
theorem b_County_livesIn (Ln d : Nat) (σ : mmSt) (x0 x1 : Int) (a : Nat) (ha : cnty a) : srun (lyT Ln) ((d + 1), 38, 0, [mR a, mI x0, mI x1], [], σ) =
 (Option.bind (srun (lyT Ln) (d, 19, 0, [mR a, mI x0], [], σ)) (fun y1 =>
 (bif decide (¬ y1.2 = 0) then
  some (y1.1, 0)
 else
  (bif minb x0 5 then
  (bif decide (¬ (y1.1 (a + 6) (Int.toNat x0)) = x1) then
   some (y1.1, 0)
  else
   some (y1.1, 1))
  else none)))) := by
  rcases ha with rfl | rfl | rfl | rfl | rfl <;> exact (srun_unr _ [] 13 _).trans rfl
/-! GridQuarrels$County.livingIn(I)I: method 39; stops [4] -/
theorem b_County_livingIn (Ln d : Nat) (σ : mmSt) (x0 : Int) (a : Nat) (ha : cnty a) : srun (lyT Ln) ((d + 1), 39, 0, [mR a, mI x0, mJ, mJ], [], σ) =
 srun (lyT Ln) ((d + 1), 39, 4, [mR a, mI x0, mI 0, mI 0], [], σ) := by
  rcases ha with rfl | rfl | rfl | rfl | rfl <;> exact (srun_unr _ [4] 4 _).trans rfl
theorem b_County_livingIn_4 (Ln d : Nat) (σ : mmSt) (z1 z2 z3 : Int) (a : Nat) (ha : cnty a) : srun (lyT Ln) ((d + 1), 39, 4, [mR a, mI z1, mI z2, mI z3], [], σ) =
 (bif decide ((σ a 2) ≤ z3) then
  some (σ, z2)
 else
  (Option.bind (srun (lyT Ln) (d, 38, 0, [mR a, mI z3, mI z1], [], σ)) (fun y1 =>
  (bif decide (y1.2 = 0) then
   srun (lyT Ln) ((d + 1), 39, 4, [mR a, mI z1, mI z2, mI (mwrap (z3 + 1))], [], y1.1)
  else
   srun (lyT Ln) ((d + 1), 39, 4, [mR a, mI z1, mI (mor z2 (mshl 1 z3)), mI (mwrap (z3 + 1))], [], y1.1))))) := by
  rcases ha with rfl | rfl | rfl | rfl | rfl <;> exact (srun_unr _ [4] 17 _).trans rfl
/-! GridQuarrels$County.atTheirBrands()I: method 40; stops [4] -/
theorem b_County_atTheirBrands (Ln d : Nat) (σ : mmSt) (a : Nat) (ha : cnty a) : srun (lyT Ln) ((d + 1), 40, 0, [mR a, mJ, mJ], [], σ) =
 srun (lyT Ln) ((d + 1), 40, 4, [mR a, mI 0, mI 0], [], σ) := by
  rcases ha with rfl | rfl | rfl | rfl | rfl <;> exact (srun_unr _ [4] 4 _).trans rfl
theorem b_County_atTheirBrands_4 (Ln d : Nat) (σ : mmSt) (z1 z2 : Int) (a : Nat) (ha : cnty a) : srun (lyT Ln) ((d + 1), 40, 4, [mR a, mI z1, mI z2], [], σ) =
 (bif decide ((σ a 2) ≤ z2) then
  some (σ, z1)
 else
  (bif minb z2 5 then
  (Option.bind (srun (lyT Ln) (d, 38, 0, [mR a, mI z2, mI (σ (a + 8) (Int.toNat z2))], [], σ)) (fun y1 =>
  (bif decide (y1.2 = 0) then
   srun (lyT Ln) ((d + 1), 40, 4, [mR a, mI z1, mI (mwrap (z2 + 1))], [], y1.1)
  else
   srun (lyT Ln) ((d + 1), 40, 4, [mR a, mI (mor z1 (mshl 1 z2)), mI (mwrap (z2 + 1))], [], y1.1))))
  else none)) := by
  rcases ha with rfl | rfl | rfl | rfl | rfl <;> exact (srun_unr _ [4] 20 _).trans rfl
/-! GridQuarrels$County.roadsAt(I)I: method 41; stops [4] -/
theorem b_County_roadsAt (Ln d : Nat) (σ : mmSt) (x0 : Int) (a : Nat) (ha : cnty a) : srun (lyT Ln) ((d + 1), 41, 0, [mR a, mI x0, mJ, mJ], [], σ) =
 srun (lyT Ln) ((d + 1), 41, 4, [mR a, mI x0, mI 0, mI 0], [], σ) := by
  rcases ha with rfl | rfl | rfl | rfl | rfl <;> exact (srun_unr _ [4] 4 _).trans rfl
theorem b_County_roadsAt_4 (Ln d : Nat) (σ : mmSt) (z1 z2 z3 : Int) (a : Nat) (ha : cnty a) : srun (lyT Ln) ((d + 1), 41, 4, [mR a, mI z1, mI z2, mI z3], [], σ) =
 (bif decide ((σ a 1) ≤ z3) then
  some (σ, z2)
 else
  (Option.bind (srun (lyT Ln) (d, 27, 0, [mR a, mI z3, mI z1], [], σ)) (fun y1 =>
  (bif decide (y1.2 = 0) then
   srun (lyT Ln) ((d + 1), 41, 4, [mR a, mI z1, mI z2, mI (mwrap (z3 + 1))], [], y1.1)
  else
   srun (lyT Ln) ((d + 1), 41, 4, [mR a, mI z1, mI (mor z2 (mshl 1 z3)), mI (mwrap (z3 + 1))], [], y1.1))))) := by
  rcases ha with rfl | rfl | rfl | rfl | rfl <;> exact (srun_unr _ [4] 17 _).trans rfl
/-! GridQuarrels$County.roadsOpenTo(I)I: method 42; stops [4] -/
theorem b_County_roadsOpenTo (Ln d : Nat) (σ : mmSt) (x0 : Int) (a : Nat) (ha : cnty a) : srun (lyT Ln) ((d + 1), 42, 0, [mR a, mI x0, mJ, mJ], [], σ) =
 srun (lyT Ln) ((d + 1), 42, 4, [mR a, mI x0, mI 0, mI 0], [], σ) := by
  rcases ha with rfl | rfl | rfl | rfl | rfl <;> exact (srun_unr _ [4] 4 _).trans rfl
theorem b_County_roadsOpenTo_4 (Ln d : Nat) (σ : mmSt) (z1 z2 z3 : Int) (a : Nat) (ha : cnty a) : srun (lyT Ln) ((d + 1), 42, 4, [mR a, mI z1, mI z2, mI z3], [], σ) =
 (bif decide ((σ a 1) ≤ z3) then
  some (σ, z2)
 else
  (Option.bind (srun (lyT Ln) (d, 19, 0, [mR a, mI z1], [], σ)) (fun y1 =>
  (bif decide (¬ y1.2 = 0) then
   some (y1.1, z2)
  else
   (bif minb z1 5 then
   (Option.bind (srun (lyT Ln) (d, 27, 0, [mR a, mI z3, mI (y1.1 (a + 6) (Int.toNat z1))], [], y1.1)) (fun y2 =>
   (bif decide (y2.2 = 0) then
    srun (lyT Ln) ((d + 1), 42, 4, [mR a, mI z1, mI z2, mI (mwrap (z3 + 1))], [], y2.1)
   else
    (Option.bind (srun (lyT Ln) (d, 29, 0, [mR a, mI z1, mI z3], [], y2.1)) (fun y3 =>
    (bif decide (y3.2 = 0) then
     srun (lyT Ln) ((d + 1), 42, 4, [mR a, mI z1, mI z2, mI (mwrap (z3 + 1))], [], y3.1)
    else
     srun (lyT Ln) ((d + 1), 42, 4, [mR a, mI z1, mI (mor z2 (mshl 1 z3)), mI (mwrap (z3 + 1))], [], y3.1)))))))
   else none))))) := by
  rcases ha with rfl | rfl | rfl | rfl | rfl <;> exact (srun_unr _ [4] 29 _).trans rfl
/-! GridQuarrels$County.mostMeals()I: method 43; stops [4] -/
theorem b_County_mostMeals (Ln d : Nat) (σ : mmSt) (a : Nat) (ha : cnty a) : srun (lyT Ln) ((d + 1), 43, 0, [mR a, mJ, mJ], [], σ) =
 srun (lyT Ln) ((d + 1), 43, 4, [mR a, mI 0, mI 1], [], σ) := by
  rcases ha with rfl | rfl | rfl | rfl | rfl <;> exact (srun_unr _ [4] 4 _).trans rfl
theorem b_County_mostMeals_4 (Ln d : Nat) (σ : mmSt) (z1 z2 : Int) (a : Nat) (ha : cnty a) : srun (lyT Ln) ((d + 1), 43, 4, [mR a, mI z1, mI z2], [], σ) =
 (bif decide ((σ a 2) ≤ z2) then
  some (σ, z1)
 else
  (bif minb z2 5 then
  (bif minb z1 5 then
  (bif decide ((σ (a + 9) (Int.toNat z2)) ≤ (σ (a + 9) (Int.toNat z1))) then
   srun (lyT Ln) ((d + 1), 43, 4, [mR a, mI z1, mI (mwrap (z2 + 1))], [], σ)
  else
   srun (lyT Ln) ((d + 1), 43, 4, [mR a, mI z2, mI (mwrap (z2 + 1))], [], σ))
  else none)
  else none)) := by
  rcases ha with rfl | rfl | rfl | rfl | rfl <;> exact (srun_unr _ [4] 17 _).trans rfl
/-! GridQuarrels$County.spread(II)I: method 44; stops [4] -/
theorem b_County_spread (Ln d : Nat) (σ : mmSt) (x0 x1 : Int) (a : Nat) (ha : cnty a) : srun (lyT Ln) ((d + 1), 44, 0, [mR a, mI x0, mI x1, mJ, mJ], [], σ) =
 srun (lyT Ln) ((d + 1), 44, 4, [mR a, mI x0, mI x1, mI x1, mI 0], [], σ) := by
  rcases ha with rfl | rfl | rfl | rfl | rfl <;> exact (srun_unr _ [4] 4 _).trans rfl
theorem b_County_spread_4 (Ln d : Nat) (σ : mmSt) (z1 z2 z3 z4 : Int) (a : Nat) (ha : cnty a) : srun (lyT Ln) ((d + 1), 44, 4, [mR a, mI z1, mI z2, mI z3, mI z4], [], σ) =
 (bif decide ((σ a 1) ≤ z4) then
  some (σ, z3)
 else
  (Option.bind (srun (lyT Ln) (d, 29, 0, [mR a, mI z1, mI z4], [], σ)) (fun y1 =>
  (bif decide (y1.2 = 0) then
   srun (lyT Ln) ((d + 1), 44, 4, [mR a, mI z1, mI z2, mI z3, mI (mwrap (z4 + 1))], [], y1.1)
  else
   (bif minb z4 7 then
   (Option.bind (srun (lyT Ln) (d, 151, 0, [mI z2, mI (y1.1 (a + 2) (Int.toNat z4))], [], y1.1)) (fun y2 =>
   (bif decide (¬ y2.2 = 0) then
    (bif minb z4 7 then
    (bif minb z4 7 then
    srun (lyT Ln) ((d + 1), 44, 4, [mR a, mI z1, mI z2, mI (mor z3 (mor (mshl 1 (y2.1 (a + 2) (Int.toNat z4))) (mshl 1 (y2.1 (a + 3) (Int.toNat z4))))), mI (mwrap (z4 + 1))], [], y2.1)
    else none)
    else none)
   else
    (bif minb z4 7 then
    (Option.bind (srun (lyT Ln) (d, 151, 0, [mI z2, mI (y2.1 (a + 3) (Int.toNat z4))], [], y2.1)) (fun y3 =>
    (bif decide (y3.2 = 0) then
     srun (lyT Ln) ((d + 1), 44, 4, [mR a, mI z1, mI z2, mI z3, mI (mwrap (z4 + 1))], [], y3.1)
    else
     (bif minb z4 7 then
     (bif minb z4 7 then
     srun (lyT Ln) ((d + 1), 44, 4, [mR a, mI z1, mI z2, mI (mor z3 (mor (mshl 1 (y3.1 (a + 2) (Int.toNat z4))) (mshl 1 (y3.1 (a + 3) (Int.toNat z4))))), mI (mwrap (z4 + 1))], [], y3.1)
     else none)
     else none))))
    else none))))
   else none))))) := by
  rcases ha with rfl | rfl | rfl | rfl | rfl <;> exact (srun_unr _ [4] 41 _).trans rfl
/-! GridQuarrels$County.roadsTo(II)I: method 45; stops [9] -/
theorem b_County_roadsTo (Ln d : Nat) (σ : mmSt) (x0 x1 : Int) (a : Nat) (ha : cnty a) : srun (lyT Ln) ((d + 1), 45, 0, [mR a, mI x0, mI x1, mJ, mJ], [], σ) =
 (bif minb x0 5 then
 srun (lyT Ln) ((d + 1), 45, 9, [mR a, mI x0, mI x1, mI (mshl 1 (σ (a + 6) (Int.toNat x0))), mI 0], [], σ)
 else none) := by
  rcases ha with rfl | rfl | rfl | rfl | rfl <;> exact (srun_unr _ [9] 9 _).trans rfl
theorem b_County_roadsTo_9 (Ln d : Nat) (σ : mmSt) (z1 z2 z3 z4 : Int) (a : Nat) (ha : cnty a) : srun (lyT Ln) ((d + 1), 45, 9, [mR a, mI z1, mI z2, mI z3, mI z4], [], σ) =
 (bif decide ((σ a 0) ≤ z4) then
  some (σ, (-1000000))
 else
  (Option.bind (srun (lyT Ln) (d, 151, 0, [mI z3, mI z2], [], σ)) (fun y1 =>
  (bif decide (y1.2 = 0) then
   (Option.bind (srun (lyT Ln) (d, 44, 0, [mR a, mI z1, mI z3, mJ, mJ], [], y1.1)) (fun y2 =>
   srun (lyT Ln) ((d + 1), 45, 9, [mR a, mI z1, mI z2, mI y2.2, mI (mwrap (z4 + 1))], [], y2.1)))
  else
   some (y1.1, z4))))) := by
  rcases ha with rfl | rfl | rfl | rfl | rfl <;> exact (srun_unr _ [9] 15 _).trans rfl
/-! GridQuarrels$County.allReached(I)I: method 46; stops [9] -/
theorem b_County_allReached (Ln d : Nat) (σ : mmSt) (x0 : Int) (a : Nat) (ha : cnty a) : srun (lyT Ln) ((d + 1), 46, 0, [mR a, mI x0, mJ, mJ], [], σ) =
 (bif minb x0 5 then
 srun (lyT Ln) ((d + 1), 46, 9, [mR a, mI x0, mI (mshl 1 (σ (a + 6) (Int.toNat x0))), mI 1], [], σ)
 else none) := by
  rcases ha with rfl | rfl | rfl | rfl | rfl <;> exact (srun_unr _ [9] 9 _).trans rfl
theorem b_County_allReached_9 (Ln d : Nat) (σ : mmSt) (z1 z2 z3 : Int) (a : Nat) (ha : cnty a) : srun (lyT Ln) ((d + 1), 46, 9, [mR a, mI z1, mI z2, mI z3], [], σ) =
 (bif decide ((σ a 0) ≤ z3) then
  some (σ, z2)
 else
  (Option.bind (srun (lyT Ln) (d, 44, 0, [mR a, mI z1, mI z2, mJ, mJ], [], σ)) (fun y1 =>
  srun (lyT Ln) ((d + 1), 46, 9, [mR a, mI z1, mI y1.2, mI (mwrap (z3 + 1))], [], y1.1)))) := by
  rcases ha with rfl | rfl | rfl | rfl | rfl <;> exact (srun_unr _ [9] 11 _).trans rfl
/-! GridQuarrels$Reader.isFull()Z: method 48; stops [] -/
theorem b_Reader_isFull (Ln d : Nat) (σ : mmSt) : srun (lyT Ln) ((d + 1), 48, 0, [mR 9], [], σ) =
 (bif decide ((σ 9 1) < 120) then
  some (σ, 0)
 else
  some (σ, 1)) := by
  exact (srun_unr _ [] 7 _).trans rfl
/-! GridQuarrels$Reader.take(I)I: method 49; stops [] -/
theorem b_Reader_take (Ln d : Nat) (σ : mmSt) (x0 : Int) : srun (lyT Ln) ((d + 1), 49, 0, [mR 9, mI x0], [], σ) =
 (Option.bind (srun (lyT Ln) (d, 48, 0, [mR 9], [], σ)) (fun y1 =>
 (bif decide (¬ y1.2 = 0) then
  some (y1.1, (y1.1 9 1))
 else
  (bif minb (y1.1 9 1) 120 then
  some ((mup (mup y1.1 20 (Int.toNat (y1.1 9 1)) x0) 9 1 (mwrap (((mup y1.1 20 (Int.toNat (y1.1 9 1)) x0) 9 1) + 1))), ((mup (mup y1.1 20 (Int.toNat (y1.1 9 1)) x0) 9 1 (mwrap (((mup y1.1 20 (Int.toNat (y1.1 9 1)) x0) 9 1) + 1))) 9 1))
  else none)))) := by
  exact (srun_unr _ [] 18 _).trans rfl
/-! GridQuarrels$Reader.read()I: method 50; stops [] -/
theorem b_Reader_read (Ln d : Nat) (σ : mmSt) : srun (lyT Ln) ((d + 1), 50, 0, [mR 9], [], σ) =
 (Option.bind (srun (lyT Ln) (d, 20, 0, [mR 10], [], (mup (mup σ 9 4 0) 9 5 0))) (fun y1 =>
 (Option.bind (srun (lyT Ln) (d, 51, 0, [mR 9, mJ, mJ], [], y1.1)) (fun y2 =>
 (Option.bind (srun (lyT Ln) (d, 52, 0, [mR 9, mJ], [], y2.1)) (fun y3 =>
 (Option.bind (srun (lyT Ln) (d, 54, 0, [mR 9, mJ], [], y3.1)) (fun y4 =>
 (bif decide (¬ ((mup y4.1 9 1 0) 9 5) = 0) then
  some ((mup (mup y4.1 9 1 0) 9 2 ((mup y4.1 9 1 0) 9 5)), ((mup (mup y4.1 9 1 0) 9 2 ((mup y4.1 9 1 0) 9 5)) 9 4))
 else
  some ((mup y4.1 9 1 0), (-1000000))))))))))) := by
  exact (srun_unr _ [] 28 _).trans rfl
/-! GridQuarrels$Reader.readLaw()V: method 51; stops [] -/
theorem b_Reader_readLaw (Ln d : Nat) (σ : mmSt) : srun (lyT Ln) ((d + 1), 51, 0, [mR 9, mJ, mJ], [], σ) =
 (Option.bind (srun (lyT Ln) (d, 59, 0, [mR 9, mI 99], [], σ)) (fun y1 =>
 (Option.bind (srun (lyT Ln) (d, 62, 0, [mR 9, mI 2, mI 7, mI (-1000000), mJ, mJ, mJ], [], y1.1)) (fun y2 =>
 (Option.bind (srun (lyT Ln) (d, 59, 0, [mR 9, mI 44], [], y2.1)) (fun y3 =>
 (Option.bind (srun (lyT Ln) (d, 62, 0, [mR 9, mI 0, mI 9, mI (-1000000), mJ, mJ, mJ], [], y3.1)) (fun y4 =>
 (Option.bind (srun (lyT Ln) (d, 59, 0, [mR 9, mI 59], [], y4.1)) (fun y5 =>
 (bif decide (¬ (y5.1 9 5) = 0) then
  some (y5.1, 0)
 else
  (Option.bind (srun (lyT Ln) (d, 21, 0, [mR 10, mI y2.2, mI y4.2, mJ], [], y5.1)) (fun y6 =>
  some (y6.1, 0)))))))))))))) := by
  exact (srun_unr _ [] 30 _).trans rfl
/-! GridQuarrels$Reader.readRoads()V: method 52; stops [4] -/
theorem b_Reader_readRoads (Ln d : Nat) (σ : mmSt) : srun (lyT Ln) ((d + 1), 52, 0, [mR 9, mJ], [], σ) =
 (Option.bind (srun (lyT Ln) (d, 53, 0, [mR 9, mJ, mJ, mJ], [], σ)) (fun y1 =>
 srun (lyT Ln) ((d + 1), 52, 4, [mR 9, mI 0], [], y1.1))) := by
  exact (srun_unr _ [4] 4 _).trans rfl
theorem b_Reader_readRoads_4 (Ln d : Nat) (σ : mmSt) (z1 : Int) : srun (lyT Ln) ((d + 1), 52, 4, [mR 9, mI z1], [], σ) =
 (bif decide (7 ≤ z1) then
  some (σ, 0)
 else
  (bif decide (¬ (σ 9 5) = 0) then
   some (σ, 0)
  else
   (Option.bind (srun (lyT Ln) (d, 57, 0, [mR 9], [], σ)) (fun y1 =>
   (bif decide (¬ y1.2 = 114) then
    some (y1.1, 0)
   else
    (Option.bind (srun (lyT Ln) (d, 53, 0, [mR 9, mJ, mJ, mJ], [], y1.1)) (fun y2 =>
    srun (lyT Ln) ((d + 1), 52, 4, [mR 9, mI (mwrap (z1 + 1))], [], y2.1)))))))) := by
  exact (srun_unr _ [4] 14 _).trans rfl
/-! GridQuarrels$Reader.readRoad()V: method 53; stops [] -/
set_option maxRecDepth 100000 in
theorem b_Reader_readRoad (Ln d : Nat) (σ : mmSt) : srun (lyT Ln) ((d + 1), 53, 0, [mR 9, mJ, mJ, mJ], [], σ) =
 (Option.bind (srun (lyT Ln) (d, 57, 0, [mR 9], [], σ)) (fun y1 =>
 (bif decide (¬ y1.2 = 114) then
  (Option.bind (srun (lyT Ln) (d, 59, 0, [mR 9, mI 114], [], y1.1)) (fun y2 =>
  (Option.bind (srun (lyT Ln) (d, 62, 0, [mR 9, mI 0, mI (mwrap ((y2.1 10 0) - 1)), mI (-1000000), mJ, mJ, mJ], [], y2.1)) (fun y3 =>
  (Option.bind (srun (lyT Ln) (d, 59, 0, [mR 9, mI 44], [], y3.1)) (fun y4 =>
  (Option.bind (srun (lyT Ln) (d, 62, 0, [mR 9, mI 0, mI (mwrap ((y4.1 10 0) - 1)), mI y3.2, mJ, mJ, mJ], [], y4.1)) (fun y5 =>
  (Option.bind (srun (lyT Ln) (d, 59, 0, [mR 9, mI 44], [], y5.1)) (fun y6 =>
  (Option.bind (srun (lyT Ln) (d, 62, 0, [mR 9, mI 0, mI 9, mI (-1000000), mJ, mJ, mJ], [], y6.1)) (fun y7 =>
  (Option.bind (srun (lyT Ln) (d, 59, 0, [mR 9, mI 59], [], y7.1)) (fun y8 =>
  (bif decide (¬ (y8.1 9 5) = 0) then
   some (y8.1, 0)
  else
   (Option.bind (srun (lyT Ln) (d, 22, 0, [mR 10, mI y3.2, mI y5.2, mI y7.2], [], y8.1)) (fun y9 =>
   some (y9.1, 0))))))))))))))))))
 else
  (bif decide (¬ (y1.1 10 1) = 7) then
   (Option.bind (srun (lyT Ln) (d, 59, 0, [mR 9, mI 114], [], y1.1)) (fun y10 =>
   (Option.bind (srun (lyT Ln) (d, 62, 0, [mR 9, mI 0, mI (mwrap ((y10.1 10 0) - 1)), mI (-1000000), mJ, mJ, mJ], [], y10.1)) (fun y11 =>
   (Option.bind (srun (lyT Ln) (d, 59, 0, [mR 9, mI 44], [], y11.1)) (fun y12 =>
   (Option.bind (srun (lyT Ln) (d, 62, 0, [mR 9, mI 0, mI (mwrap ((y12.1 10 0) - 1)), mI y11.2, mJ, mJ, mJ], [], y12.1)) (fun y13 =>
   (Option.bind (srun (lyT Ln) (d, 59, 0, [mR 9, mI 44], [], y13.1)) (fun y14 =>
   (Option.bind (srun (lyT Ln) (d, 62, 0, [mR 9, mI 0, mI 9, mI (-1000000), mJ, mJ, mJ], [], y14.1)) (fun y15 =>
   (Option.bind (srun (lyT Ln) (d, 59, 0, [mR 9, mI 59], [], y15.1)) (fun y16 =>
   (bif decide (¬ (y16.1 9 5) = 0) then
    some (y16.1, 0)
   else
    (Option.bind (srun (lyT Ln) (d, 22, 0, [mR 10, mI y11.2, mI y13.2, mI y15.2], [], y16.1)) (fun y17 =>
    some (y17.1, 0))))))))))))))))))
  else
   (Option.bind (srun (lyT Ln) (d, 56, 0, [mR 9, mI 3], [], y1.1)) (fun y18 =>
   (Option.bind (srun (lyT Ln) (d, 59, 0, [mR 9, mI 114], [], y18.1)) (fun y19 =>
   (Option.bind (srun (lyT Ln) (d, 62, 0, [mR 9, mI 0, mI (mwrap ((y19.1 10 0) - 1)), mI (-1000000), mJ, mJ, mJ], [], y19.1)) (fun y20 =>
   (Option.bind (srun (lyT Ln) (d, 59, 0, [mR 9, mI 44], [], y20.1)) (fun y21 =>
   (Option.bind (srun (lyT Ln) (d, 62, 0, [mR 9, mI 0, mI (mwrap ((y21.1 10 0) - 1)), mI y20.2, mJ, mJ, mJ], [], y21.1)) (fun y22 =>
   (Option.bind (srun (lyT Ln) (d, 59, 0, [mR 9, mI 44], [], y22.1)) (fun y23 =>
   (Option.bind (srun (lyT Ln) (d, 62, 0, [mR 9, mI 0, mI 9, mI (-1000000), mJ, mJ, mJ], [], y23.1)) (fun y24 =>
   (Option.bind (srun (lyT Ln) (d, 59, 0, [mR 9, mI 59], [], y24.1)) (fun y25 =>
   (bif decide (¬ (y25.1 9 5) = 0) then
    some (y25.1, 0)
   else
    (Option.bind (srun (lyT Ln) (d, 22, 0, [mR 10, mI y20.2, mI y22.2, mI y24.2], [], y25.1)) (fun y26 =>
    some (y26.1, 0)))))))))))))))))))))))) := by
  exact (srun_unr _ [] 60 _).trans rfl
/-! GridQuarrels$Reader.readQuarrels()V: method 54; stops [4] -/
theorem b_Reader_readQuarrels (Ln d : Nat) (σ : mmSt) : srun (lyT Ln) ((d + 1), 54, 0, [mR 9, mJ], [], σ) =
 (Option.bind (srun (lyT Ln) (d, 55, 0, [mR 9, mJ, mJ, mJ, mJ], [], σ)) (fun y1 =>
 srun (lyT Ln) ((d + 1), 54, 4, [mR 9, mI 0], [], y1.1))) := by
  exact (srun_unr _ [4] 4 _).trans rfl
theorem b_Reader_readQuarrels_4 (Ln d : Nat) (σ : mmSt) (z1 : Int) : srun (lyT Ln) ((d + 1), 54, 4, [mR 9, mI z1], [], σ) =
 (bif decide (5 ≤ z1) then
  some (σ, 0)
 else
  (bif decide (¬ (σ 9 5) = 0) then
   some (σ, 0)
  else
   (bif decide ((σ 9 1) ≤ (σ 9 4)) then
    some (σ, 0)
   else
    (Option.bind (srun (lyT Ln) (d, 55, 0, [mR 9, mJ, mJ, mJ, mJ], [], σ)) (fun y1 =>
    srun (lyT Ln) ((d + 1), 54, 4, [mR 9, mI (mwrap (z1 + 1))], [], y1.1)))))) := by
  exact (srun_unr _ [4] 15 _).trans rfl
/-! GridQuarrels$Reader.readQuarrel()V: method 55; stops [] -/
set_option maxRecDepth 100000 in
theorem b_Reader_readQuarrel (Ln d : Nat) (σ : mmSt) : srun (lyT Ln) ((d + 1), 55, 0, [mR 9, mJ, mJ, mJ, mJ], [], σ) =
 (Option.bind (srun (lyT Ln) (d, 57, 0, [mR 9], [], σ)) (fun y1 =>
 (Option.bind (srun (lyT Ln) (d, 61, 0, [mI y1.2], [], y1.1)) (fun y2 =>
 (bif decide (y2.2 = 0) then
  (Option.bind (srun (lyT Ln) (d, 60, 0, [mR 9, mJ], [], y2.1)) (fun y3 =>
  (Option.bind (srun (lyT Ln) (d, 62, 0, [mR 9, mI 0, mI (mwrap ((y3.1 10 0) - 1)), mI (-1000000), mJ, mJ, mJ], [], y3.1)) (fun y4 =>
  (Option.bind (srun (lyT Ln) (d, 59, 0, [mR 9, mI 44], [], y4.1)) (fun y5 =>
  (Option.bind (srun (lyT Ln) (d, 62, 0, [mR 9, mI 1, mI 9, mI (-1000000), mJ, mJ, mJ], [], y5.1)) (fun y6 =>
  (Option.bind (srun (lyT Ln) (d, 59, 0, [mR 9, mI 44], [], y6.1)) (fun y7 =>
  (Option.bind (srun (lyT Ln) (d, 62, 0, [mR 9, mI 0, mI (mwrap ((y7.1 10 0) - 1)), mI (-1000000), mJ, mJ, mJ], [], y7.1)) (fun y8 =>
  (Option.bind (srun (lyT Ln) (d, 59, 0, [mR 9, mI 59], [], y8.1)) (fun y9 =>
  (bif decide (¬ (y9.1 9 5) = 0) then
   some (y9.1, 0)
  else
   (Option.bind (srun (lyT Ln) (d, 23, 0, [mR 10, mI y3.2, mI y4.2, mI y6.2, mI y8.2], [], y9.1)) (fun y10 =>
   some (y10.1, 0))))))))))))))))))
 else
  (bif decide (¬ (y2.1 10 2) = 5) then
   (Option.bind (srun (lyT Ln) (d, 60, 0, [mR 9, mJ], [], y2.1)) (fun y11 =>
   (Option.bind (srun (lyT Ln) (d, 62, 0, [mR 9, mI 0, mI (mwrap ((y11.1 10 0) - 1)), mI (-1000000), mJ, mJ, mJ], [], y11.1)) (fun y12 =>
   (Option.bind (srun (lyT Ln) (d, 59, 0, [mR 9, mI 44], [], y12.1)) (fun y13 =>
   (Option.bind (srun (lyT Ln) (d, 62, 0, [mR 9, mI 1, mI 9, mI (-1000000), mJ, mJ, mJ], [], y13.1)) (fun y14 =>
   (Option.bind (srun (lyT Ln) (d, 59, 0, [mR 9, mI 44], [], y14.1)) (fun y15 =>
   (Option.bind (srun (lyT Ln) (d, 62, 0, [mR 9, mI 0, mI (mwrap ((y15.1 10 0) - 1)), mI (-1000000), mJ, mJ, mJ], [], y15.1)) (fun y16 =>
   (Option.bind (srun (lyT Ln) (d, 59, 0, [mR 9, mI 59], [], y16.1)) (fun y17 =>
   (bif decide (¬ (y17.1 9 5) = 0) then
    some (y17.1, 0)
   else
    (Option.bind (srun (lyT Ln) (d, 23, 0, [mR 10, mI y11.2, mI y12.2, mI y14.2, mI y16.2], [], y17.1)) (fun y18 =>
    some (y18.1, 0))))))))))))))))))
  else
   (Option.bind (srun (lyT Ln) (d, 56, 0, [mR 9, mI 3], [], y2.1)) (fun y19 =>
   (Option.bind (srun (lyT Ln) (d, 60, 0, [mR 9, mJ], [], y19.1)) (fun y20 =>
   (Option.bind (srun (lyT Ln) (d, 62, 0, [mR 9, mI 0, mI (mwrap ((y20.1 10 0) - 1)), mI (-1000000), mJ, mJ, mJ], [], y20.1)) (fun y21 =>
   (Option.bind (srun (lyT Ln) (d, 59, 0, [mR 9, mI 44], [], y21.1)) (fun y22 =>
   (Option.bind (srun (lyT Ln) (d, 62, 0, [mR 9, mI 1, mI 9, mI (-1000000), mJ, mJ, mJ], [], y22.1)) (fun y23 =>
   (Option.bind (srun (lyT Ln) (d, 59, 0, [mR 9, mI 44], [], y23.1)) (fun y24 =>
   (Option.bind (srun (lyT Ln) (d, 62, 0, [mR 9, mI 0, mI (mwrap ((y24.1 10 0) - 1)), mI (-1000000), mJ, mJ, mJ], [], y24.1)) (fun y25 =>
   (Option.bind (srun (lyT Ln) (d, 59, 0, [mR 9, mI 59], [], y25.1)) (fun y26 =>
   (bif decide (¬ (y26.1 9 5) = 0) then
    some (y26.1, 0)
   else
    (Option.bind (srun (lyT Ln) (d, 23, 0, [mR 10, mI y20.2, mI y21.2, mI y23.2, mI y25.2], [], y26.1)) (fun y27 =>
    some (y27.1, 0)))))))))))))))))))))))))) := by
  exact (srun_unr _ [] 61 _).trans rfl
/-! GridQuarrels$Reader.fail(I)V: method 56; stops [] -/
theorem b_Reader_fail (Ln d : Nat) (σ : mmSt) (x0 : Int) : srun (lyT Ln) ((d + 1), 56, 0, [mR 9, mI x0], [], σ) =
 (bif decide (¬ (σ 9 5) = 0) then
  some (σ, 0)
 else
  some ((mup σ 9 5 x0), 0)) := by
  exact (srun_unr _ [] 7 _).trans rfl
/-! GridQuarrels$Reader.next()I: method 57; stops [] -/
theorem b_Reader_next (Ln d : Nat) (σ : mmSt) : srun (lyT Ln) ((d + 1), 57, 0, [mR 9], [], σ) =
 (Option.bind (srun (lyT Ln) (d, 58, 0, [mR 9, mI (σ 9 4)], [], σ)) (fun y1 =>
 some (y1.1, y1.2))) := by
  exact (srun_unr _ [] 5 _).trans rfl
/-! GridQuarrels$Reader.byteAt(I)I: method 58; stops [] -/
theorem b_Reader_byteAt (Ln d : Nat) (σ : mmSt) (x0 : Int) : srun (lyT Ln) ((d + 1), 58, 0, [mR 9, mI x0], [], σ) =
 (bif decide (x0 < 0) then
  some (σ, (-1))
 else
  (bif decide ((σ 9 1) ≤ x0) then
   some (σ, (-1))
  else
   (bif minb x0 120 then
   some (σ, (σ 20 (Int.toNat x0)))
   else none))) := by
  exact (srun_unr _ [] 12 _).trans rfl
/-! GridQuarrels$Reader.expect(I)V: method 59; stops [] -/
theorem b_Reader_expect (Ln d : Nat) (σ : mmSt) (x0 : Int) : srun (lyT Ln) ((d + 1), 59, 0, [mR 9, mI x0], [], σ) =
 (bif decide ((σ 9 5) = 0) then
  (Option.bind (srun (lyT Ln) (d, 57, 0, [mR 9], [], σ)) (fun y1 =>
  (bif decide (¬ y1.2 = x0) then
   (Option.bind (srun (lyT Ln) (d, 56, 0, [mR 9, mI 1], [], y1.1)) (fun y2 =>
   some (y2.1, 0)))
  else
   some ((mup y1.1 9 4 (mwrap ((y1.1 9 4) + 1))), 0))))
 else
  some (σ, 0)) := by
  exact (srun_unr _ [] 15 _).trans rfl
/-! GridQuarrels$Reader.sort()I: method 60; stops [] -/
theorem b_Reader_sort (Ln d : Nat) (σ : mmSt) : srun (lyT Ln) ((d + 1), 60, 0, [mR 9, mJ], [], σ) =
 (Option.bind (srun (lyT Ln) (d, 57, 0, [mR 9], [], σ)) (fun y1 =>
 (Option.bind (srun (lyT Ln) (d, 61, 0, [mI y1.2], [], y1.1)) (fun y2 =>
 (bif decide (¬ y2.2 = 0) then
  (bif decide (¬ (y2.1 9 5) = 0) then
   some (y2.1, y2.2)
  else
   some ((mup y2.1 9 4 (mwrap ((y2.1 9 4) + 1))), y2.2))
 else
  (Option.bind (srun (lyT Ln) (d, 56, 0, [mR 9, mI 1], [], y2.1)) (fun y3 =>
  (bif decide (¬ (y3.1 9 5) = 0) then
   some (y3.1, y2.2)
  else
   some ((mup y3.1 9 4 (mwrap ((y3.1 9 4) + 1))), y2.2))))))))) := by
  exact (srun_unr _ [] 20 _).trans rfl
/-! GridQuarrels$Reader.kindOf(I)I: method 61; stops [] -/
theorem b_Reader_kindOf (Ln d : Nat) (σ : mmSt) (x0 : Int) : srun (lyT Ln) ((d + 1), 61, 0, [mI x0], [], σ) =
 (bif decide (x0 = 98) then
 some (σ, 4)
 else
 (bif decide (x0 = 107) then
 some (σ, 3)
 else
 (bif decide (x0 = 109) then
 some (σ, 5)
 else
 (bif decide (x0 = 112) then
 some (σ, 1)
 else
 (bif decide (x0 = 116) then
 some (σ, 2)
 else
 some (σ, 0)))))) := by
  exact (srun_unr _ [] 4 _).trans rfl
/-! GridQuarrels$Reader.number(III)I: method 62; stops [23] -/
theorem b_Reader_number (Ln d : Nat) (σ : mmSt) (x0 x1 x2 : Int) : srun (lyT Ln) ((d + 1), 62, 0, [mR 9, mI x0, mI x1, mI x2, mJ, mJ, mJ], [], σ) =
 (bif decide ((σ 9 5) = 0) then
  (Option.bind (srun (lyT Ln) (d, 63, 0, [mR 9, mJ, mJ], [], σ)) (fun y1 =>
  (bif decide (y1.2 < 1) then
   (Option.bind (srun (lyT Ln) (d, 56, 0, [mR 9, mI 1], [], y1.1)) (fun y2 =>
   some (y2.1, 0)))
  else
   (bif decide (y1.2 ≤ 2) then
    srun (lyT Ln) ((d + 1), 62, 23, [mR 9, mI x0, mI x1, mI x2, mI y1.2, mI 0, mI 0], [], y1.1)
   else
    (Option.bind (srun (lyT Ln) (d, 56, 0, [mR 9, mI 1], [], y1.1)) (fun y3 =>
    some (y3.1, 0)))))))
 else
  some (σ, 0)) := by
  exact (srun_unr _ [23] 17 _).trans rfl
theorem b_Reader_number_23 (Ln d : Nat) (σ : mmSt) (z1 z2 z3 z4 z5 z6 : Int) : srun (lyT Ln) ((d + 1), 62, 23, [mR 9, mI z1, mI z2, mI z3, mI z4, mI z5, mI z6], [], σ) =
 (bif decide (z4 ≤ z6) then
  (Option.bind (srun (lyT Ln) (d, 150, 0, [mI z5, mI z1, mI z2], [], σ)) (fun y1 =>
  (bif decide (y1.2 = 0) then
   (Option.bind (srun (lyT Ln) (d, 56, 0, [mR 9, mI 2], [], y1.1)) (fun y2 =>
   some (y2.1, 0)))
  else
   (bif decide (¬ z5 = z3) then
    some ((mup y1.1 9 4 (mwrap ((y1.1 9 4) + z4))), z5)
   else
    (Option.bind (srun (lyT Ln) (d, 56, 0, [mR 9, mI 2], [], y1.1)) (fun y3 =>
    some (y3.1, 0)))))))
 else
  (Option.bind (srun (lyT Ln) (d, 58, 0, [mR 9, mI (mwrap ((σ 9 4) + z6))], [], σ)) (fun y4 =>
  srun (lyT Ln) ((d + 1), 62, 23, [mR 9, mI z1, mI z2, mI z3, mI z4, mI (mwrap ((mwrap ((mwrap (z5 * 10)) + y4.2)) - 48)), mI (mwrap (z6 + 1))], [], y4.1)))) := by
  exact (srun_unr _ [23] 19 _).trans rfl
/-! GridQuarrels$Reader.figuresHere()I: method 63; stops [5] -/
theorem b_Reader_figuresHere (Ln d : Nat) (σ : mmSt) : srun (lyT Ln) ((d + 1), 63, 0, [mR 9, mJ, mJ], [], σ) =
 srun (lyT Ln) ((d + 1), 63, 5, [mR 9, mI 0, mI (σ 9 4)], [], σ) := by
  exact (srun_unr _ [5] 5 _).trans rfl
theorem b_Reader_figuresHere_5 (Ln d : Nat) (σ : mmSt) (z1 z2 : Int) : srun (lyT Ln) ((d + 1), 63, 5, [mR 9, mI z1, mI z2], [], σ) =
 (bif decide ((σ 9 1) ≤ z2) then
  some (σ, z1)
 else
  (Option.bind (srun (lyT Ln) (d, 58, 0, [mR 9, mI z2], [], σ)) (fun y1 =>
  (Option.bind (srun (lyT Ln) (d, 150, 0, [mI y1.2, mI 48, mI 57], [], y1.1)) (fun y2 =>
  (bif decide (y2.2 = 0) then
   some (y2.1, z1)
  else
   srun (lyT Ln) ((d + 1), 63, 5, [mR 9, mI (mwrap (z1 + 1)), mI (mwrap (z2 + 1))], [], y2.1))))))) := by
  exact (srun_unr _ [5] 14 _).trans rfl
/-! GridQuarrels$Rows.isRow(I)Z: method 65; stops [] -/
theorem b_Rows_isRow (Ln d : Nat) (σ : mmSt) (x0 : Int) : srun (lyT Ln) ((d + 1), 65, 0, [mR 5, mI x0], [], σ) =
 (Option.bind (srun (lyT Ln) (d, 150, 0, [mI x0, mI 0, mI 7], [], σ)) (fun y1 =>
 (bif decide (0 ≤ y1.2) && decide (y1.2 ≤ 1) then some (y1.1, y1.2) else none))) := by
  exact (srun_unr _ [] 5 _).trans rfl
/-! GridQuarrels$Rows.isMissing(I)Z: method 66; stops [] -/
theorem b_Rows_isMissing (Ln d : Nat) (σ : mmSt) (x0 : Int) : srun (lyT Ln) ((d + 1), 66, 0, [mR 5, mI x0], [], σ) =
 (bif minb x0 8 then
 (bif decide (¬ (σ 8 (Int.toNat x0)) = (-1)) then
  some (σ, 0)
 else
  some (σ, 1))
 else none) := by
  exact (srun_unr _ [] 9 _).trans rfl
/-! GridQuarrels$Rows.present()I: method 67; stops [4] -/
theorem b_Rows_present (Ln d : Nat) (σ : mmSt) : srun (lyT Ln) ((d + 1), 67, 0, [mR 5, mJ, mJ], [], σ) =
 srun (lyT Ln) ((d + 1), 67, 4, [mR 5, mI 0, mI 0], [], σ) := by
  exact (srun_unr _ [4] 4 _).trans rfl
theorem b_Rows_present_4 (Ln d : Nat) (σ : mmSt) (z1 z2 : Int) : srun (lyT Ln) ((d + 1), 67, 4, [mR 5, mI z1, mI z2], [], σ) =
 (bif decide (8 ≤ z2) then
  some (σ, z1)
 else
  (Option.bind (srun (lyT Ln) (d, 66, 0, [mR 5, mI z2], [], σ)) (fun y1 =>
  (bif decide (¬ y1.2 = 0) then
   srun (lyT Ln) ((d + 1), 67, 4, [mR 5, mI z1, mI (mwrap (z2 + 1))], [], y1.1)
  else
   srun (lyT Ln) ((d + 1), 67, 4, [mR 5, mI (mwrap (z1 + 1)), mI (mwrap (z2 + 1))], [], y1.1))))) := by
  exact (srun_unr _ [4] 10 _).trans rfl
/-! GridQuarrels$Rows.findingOf(III)I: method 68; stops [] -/
theorem b_Rows_findingOf (Ln d : Nat) (σ : mmSt) (x0 x1 x2 : Int) : srun (lyT Ln) ((d + 1), 68, 0, [mR 5, mI x0, mI x1, mI x2], [], σ) =
 (Option.bind (srun (lyT Ln) (d, 66, 0, [mR 5, mI x0], [], σ)) (fun y1 =>
 (bif decide (y1.2 = 0) then
  (Option.bind (srun (lyT Ln) (d, 70, 0, [mR 5, mI x0, mI x1, mI x2], [], y1.1)) (fun y2 =>
  (bif decide (y2.2 = 0) then
   some (y2.1, 2)
  else
   some (y2.1, 0))))
 else
  some (y1.1, 1)))) := by
  exact (srun_unr _ [] 13 _).trans rfl
/-! GridQuarrels$Rows.findingOfTwo(IIIII)I: method 69; stops [] -/
theorem b_Rows_findingOfTwo (Ln d : Nat) (σ : mmSt) (x0 x1 x2 x3 x4 : Int) : srun (lyT Ln) ((d + 1), 69, 0, [mR 5, mI x0, mI x1, mI x2, mI x3, mI x4], [], σ) =
 (Option.bind (srun (lyT Ln) (d, 66, 0, [mR 5, mI x0], [], σ)) (fun y1 =>
 (bif decide (¬ y1.2 = 0) then
  some (y1.1, 1)
 else
  (Option.bind (srun (lyT Ln) (d, 66, 0, [mR 5, mI x2], [], y1.1)) (fun y2 =>
  (bif decide (y2.2 = 0) then
   (bif minb x0 8 then
   (bif minb x2 8 then
   (bif decide ((y2.1 7 (Int.toNat x0)) = (y2.1 7 (Int.toNat x2))) then
    (Option.bind (srun (lyT Ln) (d, 70, 0, [mR 5, mI x0, mI x1, mI x4], [], y2.1)) (fun y3 =>
    (bif decide (y3.2 = 0) then
     some (y3.1, 2)
    else
     (Option.bind (srun (lyT Ln) (d, 70, 0, [mR 5, mI x2, mI x3, mI x4], [], y3.1)) (fun y4 =>
     (bif decide (y4.2 = 0) then
      some (y4.1, 2)
     else
      some (y4.1, 0)))))))
   else
    some (y2.1, 5))
   else none)
   else none)
  else
   some (y2.1, 1))))))) := by
  exact (srun_unr _ [] 32 _).trans rfl
/-! GridQuarrels$Rows.holds(III)Z: method 70; stops [] -/
theorem b_Rows_holds (Ln d : Nat) (σ : mmSt) (x0 x1 x2 : Int) : srun (lyT Ln) ((d + 1), 70, 0, [mR 5, mI x0, mI x1, mI x2], [], σ) =
 (bif decide (x1 < 0) then
  some (σ, 0)
 else
  (bif decide (x2 < 0) then
   some (σ, 0)
  else
   (bif minb x0 8 then
   (bif decide ((σ 8 (Int.toNat x0)) < x2) then
    some (σ, 0)
   else
    (bif minb x0 8 then
    (bif decide ((mwrap ((σ 8 (Int.toNat x0)) - x2)) < x1) then
     some (σ, 0)
    else
     some (σ, 1))
    else none))
   else none))) := by
  exact (srun_unr _ [] 21 _).trans rfl
/-! GridQuarrels$Rows.make(III)V: method 71; stops [12] -/
theorem b_Rows_make (Ln d : Nat) (σ : mmSt) (x0 x1 x2 : Int) : srun (lyT Ln) ((d + 1), 71, 0, [mR 5, mI x0, mI x1, mI x2, mJ], [], σ) =
 (bif minb x0 8 then
 (bif minb x0 8 then
 srun (lyT Ln) ((d + 1), 71, 12, [mR 5, mI x0, mI x1, mI x2, mI 0], [], (mup (mup σ 7 (Int.toNat x0) x1) 8 (Int.toNat x0) x2))
 else none)
 else none) := by
  exact (srun_unr _ [12] 12 _).trans rfl
theorem b_Rows_make_12 (Ln d : Nat) (σ : mmSt) (z1 z2 z3 z4 : Int) : srun (lyT Ln) ((d + 1), 71, 12, [mR 5, mI z1, mI z2, mI z3, mI z4], [], σ) =
 (bif decide (z3 ≤ z4) then
  some (σ, 0)
 else
  (bif minb (mwrap ((mwrap (z1 * 40)) + z4)) 320 then
  srun (lyT Ln) ((d + 1), 71, 12, [mR 5, mI z1, mI z2, mI z3, mI (mwrap (z4 + 1))], [], (mup σ 6 (Int.toNat (mwrap ((mwrap (z1 * 40)) + z4))) 0))
  else none)) := by
  exact (srun_unr _ [12] 14 _).trans rfl
/-! GridQuarrels$Rows.remove(I)I: method 72; stops [] -/
theorem b_Rows_remove (Ln d : Nat) (σ : mmSt) (x0 : Int) : srun (lyT Ln) ((d + 1), 72, 0, [mR 5, mI x0, mJ], [], σ) =
 (bif minb x0 8 then
 (bif minb x0 8 then
 some ((mup σ 8 (Int.toNat x0) (-1)), (σ 8 (Int.toNat x0)))
 else none)
 else none) := by
  exact (srun_unr _ [] 12 _).trans rfl
/-! GridQuarrels$Rows.put(III)I: method 73; stops [] -/
theorem b_Rows_put (Ln d : Nat) (σ : mmSt) (x0 x1 x2 : Int) : srun (lyT Ln) ((d + 1), 73, 0, [mR 5, mI x0, mI x1, mI x2, mJ], [], σ) =
 (bif minb x0 8 then
 (Option.bind (srun (lyT Ln) (d, 74, 0, [mI (σ 7 (Int.toNat x0)), mI x2], [], σ)) (fun y1 =>
 (bif minb (mwrap ((mwrap (x0 * 40)) + x1)) 320 then
 some ((mup y1.1 6 (Int.toNat (mwrap ((mwrap (x0 * 40)) + x1))) y1.2), y1.2)
 else none)))
 else none) := by
  exact (srun_unr _ [] 18 _).trans rfl
/-! GridQuarrels$Rows.cutToLane(II)I: method 74; stops [] -/
theorem b_Rows_cutToLane (Ln d : Nat) (σ : mmSt) (x0 x1 : Int) : srun (lyT Ln) ((d + 1), 74, 0, [mI x0, mI x1], [], σ) =
 (bif decide (x0 = 0) then
 some (σ, (mi2b x1))
 else
 (bif decide (x0 = 1) then
 some (σ, (mi2s x1))
 else
 some (σ, x1))) := by
  exact (srun_unr _ [] 5 _).trans rfl
/-! GridQuarrels$Rows.move(IIIII)V: method 75; stops [] -/
theorem b_Rows_move (Ln d : Nat) (σ : mmSt) (x0 x1 x2 x3 x4 : Int) : srun (lyT Ln) ((d + 1), 75, 0, [mR 5, mI x0, mI x1, mI x2, mI x3, mI x4], [], σ) =
 (bif decide (0 ≤ (mwrap ((mwrap (x0 * 40)) + x1))) && decide (0 ≤ (mwrap ((mwrap (x2 * 40)) + x3))) && decide (0 ≤ x4) && decide ((mwrap ((mwrap (x0 * 40)) + x1)) + x4 ≤ 320) && decide ((mwrap ((mwrap (x2 * 40)) + x3)) + x4 ≤ 320) then
 some ((mcpy σ 6 (Int.toNat (mwrap ((mwrap (x0 * 40)) + x1))) 6 (Int.toNat (mwrap ((mwrap (x2 * 40)) + x3))) (Int.toNat x4)), 0)
 else none) := by
  exact (srun_unr _ [] 17 _).trans rfl
/-! GridQuarrels$Rows.tell(III[I)V: method 76; stops [2] -/
theorem b_Rows_tell (Ln d : Nat) (σ : mmSt) (x0 x1 x2 : Int) : srun (lyT Ln) ((d + 1), 76, 0, [mR 5, mI x0, mI x1, mI x2, mR 68, mJ], [], σ) =
 srun (lyT Ln) ((d + 1), 76, 2, [mR 5, mI x0, mI x1, mI x2, mR 68, mI 0], [], σ) := by
  exact (srun_unr _ [2] 2 _).trans rfl
theorem b_Rows_tell_2 (Ln d : Nat) (σ : mmSt) (z1 z2 z3 z5 : Int) : srun (lyT Ln) ((d + 1), 76, 2, [mR 5, mI z1, mI z2, mI z3, mR 68, mI z5], [], σ) =
 (bif decide (z3 ≤ z5) then
  some (σ, 0)
 else
  (bif decide (12 ≤ z5) then
   some (σ, 0)
  else
   (bif minb (mwrap ((mwrap ((mwrap (z1 * 40)) + z2)) + z5)) 320 then
   (bif minb z5 12 then
   srun (lyT Ln) ((d + 1), 76, 2, [mR 5, mI z1, mI z2, mI z3, mR 68, mI (mwrap (z5 + 1))], [], (mup σ 68 (Int.toNat z5) (σ 6 (Int.toNat (mwrap ((mwrap ((mwrap (z1 * 40)) + z2)) + z5))))))
   else none)
   else none))) := by
  exact (srun_unr _ [2] 22 _).trans rfl
/-! GridQuarrels$Seer.begin()V: method 78; stops [] -/
theorem b_Seer_begin (Ln d : Nat) (σ : mmSt) : srun (lyT Ln) ((d + 1), 78, 0, [mR 47], [], σ) =
 (Option.bind (srun (lyT Ln) (d, 24, 0, [mR 58, mR 48, mJ], [], σ)) (fun y1 =>
 some (y1.1, 0))) := by
  exact (srun_unr _ [] 6 _).trans rfl
/-! GridQuarrels$Seer.pass(I)V: method 79; stops [2] -/
theorem b_Seer_pass (Ln d : Nat) (σ : mmSt) (x0 : Int) : srun (lyT Ln) ((d + 1), 79, 0, [mR 47, mI x0, mJ], [], σ) =
 srun (lyT Ln) ((d + 1), 79, 2, [mR 47, mI x0, mI 0], [], σ) := by
  exact (srun_unr _ [2] 2 _).trans rfl
theorem b_Seer_pass_2 (Ln d : Nat) (σ : mmSt) (z1 z2 : Int) : srun (lyT Ln) ((d + 1), 79, 2, [mR 47, mI z1, mI z2], [], σ) =
 (bif decide (z1 ≤ z2) then
  some (σ, 0)
 else
  (Option.bind (srun (lyT Ln) (d, 32, 0, [mR 58, mJ], [], σ)) (fun y1 =>
  srun (lyT Ln) ((d + 1), 79, 2, [mR 47, mI z1, mI (mwrap (z2 + 1))], [], y1.1)))) := by
  exact (srun_unr _ [2] 8 _).trans rfl
/-! GridQuarrels$Seer.lookAhead(I)V: method 80; stops [] -/
theorem b_Seer_lookAhead (Ln d : Nat) (σ : mmSt) (x0 : Int) : srun (lyT Ln) ((d + 1), 80, 0, [mR 47, mI x0], [], σ) =
 (Option.bind (srun (lyT Ln) (d, 78, 0, [mR 47], [], σ)) (fun y1 =>
 (Option.bind (srun (lyT Ln) (d, 79, 0, [mR 47, mI x0, mJ], [], y1.1)) (fun y2 =>
 some (y2.1, 0))))) := by
  exact (srun_unr _ [] 6 _).trans rfl
/-! GridQuarrels$Seer.yearsToDeath(I)I: method 81; stops [2] -/
theorem b_Seer_yearsToDeath (Ln d : Nat) (σ : mmSt) (x0 : Int) : srun (lyT Ln) ((d + 1), 81, 0, [mR 47, mI x0, mJ], [], σ) =
 srun (lyT Ln) ((d + 1), 81, 2, [mR 47, mI x0, mI 0], [], σ) := by
  exact (srun_unr _ [2] 2 _).trans rfl
theorem b_Seer_yearsToDeath_2 (Ln d : Nat) (σ : mmSt) (z1 z2 : Int) : srun (lyT Ln) ((d + 1), 81, 2, [mR 47, mI z1, mI z2], [], σ) =
 (bif decide (60 < z2) then
  some (σ, (-1000000))
 else
  (Option.bind (srun (lyT Ln) (d, 19, 0, [mR 58, mI z1], [], σ)) (fun y1 =>
  (bif decide (y1.2 = 0) then
   (Option.bind (srun (lyT Ln) (d, 32, 0, [mR 58, mJ], [], y1.1)) (fun y2 =>
   srun (lyT Ln) ((d + 1), 81, 2, [mR 47, mI z1, mI (mwrap (z2 + 1))], [], y2.1)))
  else
   some (y1.1, z2))))) := by
  exact (srun_unr _ [2] 13 _).trans rfl
/-! GridQuarrels$Seer.yearsToParish(II)I: method 82; stops [4] -/
theorem b_Seer_yearsToParish (Ln d : Nat) (σ : mmSt) (x0 x1 : Int) : srun (lyT Ln) ((d + 1), 82, 0, [mR 47, mI x0, mI x1, mJ], [], σ) =
 (Option.bind (srun (lyT Ln) (d, 78, 0, [mR 47], [], σ)) (fun y1 =>
 srun (lyT Ln) ((d + 1), 82, 4, [mR 47, mI x0, mI x1, mI 0], [], y1.1))) := by
  exact (srun_unr _ [4] 4 _).trans rfl
theorem b_Seer_yearsToParish_4 (Ln d : Nat) (σ : mmSt) (z1 z2 z3 : Int) : srun (lyT Ln) ((d + 1), 82, 4, [mR 47, mI z1, mI z2, mI z3], [], σ) =
 (bif decide (60 < z3) then
  some (σ, (-1000000))
 else
  (Option.bind (srun (lyT Ln) (d, 38, 0, [mR 58, mI z1, mI z2], [], σ)) (fun y1 =>
  (bif decide (y1.2 = 0) then
   (Option.bind (srun (lyT Ln) (d, 32, 0, [mR 58, mJ], [], y1.1)) (fun y2 =>
   srun (lyT Ln) ((d + 1), 82, 4, [mR 47, mI z1, mI z2, mI (mwrap (z3 + 1))], [], y2.1)))
  else
   some (y1.1, z3))))) := by
  exact (srun_unr _ [4] 14 _).trans rfl
/-! GridQuarrels$Seer.yearsToMeeting(II)I: method 83; stops [4] -/
theorem b_Seer_yearsToMeeting (Ln d : Nat) (σ : mmSt) (x0 x1 : Int) : srun (lyT Ln) ((d + 1), 83, 0, [mR 47, mI x0, mI x1, mJ], [], σ) =
 (Option.bind (srun (lyT Ln) (d, 78, 0, [mR 47], [], σ)) (fun y1 =>
 srun (lyT Ln) ((d + 1), 83, 4, [mR 47, mI x0, mI x1, mI 0], [], y1.1))) := by
  exact (srun_unr _ [4] 4 _).trans rfl
theorem b_Seer_yearsToMeeting_4 (Ln d : Nat) (σ : mmSt) (z1 z2 z3 : Int) : srun (lyT Ln) ((d + 1), 83, 4, [mR 47, mI z1, mI z2, mI z3], [], σ) =
 (bif decide (60 < z3) then
  some (σ, (-1000000))
 else
  (Option.bind (srun (lyT Ln) (d, 19, 0, [mR 58, mI z1], [], σ)) (fun y1 =>
  (bif decide (¬ y1.2 = 0) then
   (Option.bind (srun (lyT Ln) (d, 32, 0, [mR 58, mJ], [], y1.1)) (fun y2 =>
   srun (lyT Ln) ((d + 1), 83, 4, [mR 47, mI z1, mI z2, mI (mwrap (z3 + 1))], [], y2.1)))
  else
   (bif minb z1 5 then
   (Option.bind (srun (lyT Ln) (d, 38, 0, [mR 58, mI z2, mI (y1.1 64 (Int.toNat z1))], [], y1.1)) (fun y3 =>
   (bif decide (y3.2 = 0) then
    (Option.bind (srun (lyT Ln) (d, 32, 0, [mR 58, mJ], [], y3.1)) (fun y4 =>
    srun (lyT Ln) ((d + 1), 83, 4, [mR 47, mI z1, mI z2, mI (mwrap (z3 + 1))], [], y4.1)))
   else
    some (y3.1, z3))))
   else none))))) := by
  exact (srun_unr _ [4] 23 _).trans rfl
/-! GridQuarrels$Seer.fewestShut(II)I: method 84; stops [6] -/
theorem b_Seer_fewestShut (Ln d : Nat) (σ : mmSt) (x0 x1 : Int) : srun (lyT Ln) ((d + 1), 84, 0, [mR 47, mI x0, mI x1, mJ, mJ, mJ], [], σ) =
 srun (lyT Ln) ((d + 1), 84, 6, [mR 47, mI x0, mI x1, mI (-1000000), mI 8, mI 0], [], σ) := by
  exact (srun_unr _ [6] 6 _).trans rfl
theorem b_Seer_fewestShut_6 (Ln d : Nat) (σ : mmSt) (z1 z2 z3 z4 z5 : Int) : srun (lyT Ln) ((d + 1), 84, 6, [mR 47, mI z1, mI z2, mI z3, mI z4, mI z5], [], σ) =
 (bif decide ((mshl 1 (σ 48 1)) ≤ z5) then
  some (σ, z3)
 else
  (Option.bind (srun (lyT Ln) (d, 0, 0, [mI z5], [], σ)) (fun y1 =>
  (bif decide (z4 ≤ y1.2) then
   srun (lyT Ln) ((d + 1), 84, 6, [mR 47, mI z1, mI z2, mI z3, mI z4, mI (mwrap (z5 + 1))], [], y1.1)
  else
   (Option.bind (srun (lyT Ln) (d, 85, 0, [mR 47, mI z5, mI z1, mI z2, mJ], [], y1.1)) (fun y2 =>
   (bif decide (y2.2 = 0) then
    srun (lyT Ln) ((d + 1), 84, 6, [mR 47, mI z1, mI z2, mI z3, mI z4, mI (mwrap (z5 + 1))], [], y2.1)
   else
    (Option.bind (srun (lyT Ln) (d, 0, 0, [mI z5], [], y2.1)) (fun y3 =>
    srun (lyT Ln) ((d + 1), 84, 6, [mR 47, mI z1, mI z2, mI z5, mI y3.2, mI (mwrap (z5 + 1))], [], y3.1)))))))))) := by
  exact (srun_unr _ [6] 24 _).trans rfl
/-! GridQuarrels$Seer.sparedByShut(III)Z: method 85; stops [8] -/
theorem b_Seer_sparedByShut (Ln d : Nat) (σ : mmSt) (x0 x1 x2 : Int) : srun (lyT Ln) ((d + 1), 85, 0, [mR 47, mI x0, mI x1, mI x2, mJ], [], σ) =
 (Option.bind (srun (lyT Ln) (d, 78, 0, [mR 47], [], σ)) (fun y1 =>
 (Option.bind (srun (lyT Ln) (d, 86, 0, [mR 47, mI x0, mI 12, mJ], [], y1.1)) (fun y2 =>
 srun (lyT Ln) ((d + 1), 85, 8, [mR 47, mI x0, mI x1, mI x2, mI 0], [], y2.1))))) := by
  exact (srun_unr _ [8] 8 _).trans rfl
theorem b_Seer_sparedByShut_8 (Ln d : Nat) (σ : mmSt) (z1 z2 z3 z4 : Int) : srun (lyT Ln) ((d + 1), 85, 8, [mR 47, mI z1, mI z2, mI z3, mI z4], [], σ) =
 (bif decide (z3 ≤ z4) then
  some (σ, 1)
 else
  (Option.bind (srun (lyT Ln) (d, 32, 0, [mR 58, mJ], [], σ)) (fun y1 =>
  (Option.bind (srun (lyT Ln) (d, 87, 0, [mR 47, mI z2, mJ], [], y1.1)) (fun y2 =>
  (bif decide (y2.2 = 0) then
   srun (lyT Ln) ((d + 1), 85, 8, [mR 47, mI z1, mI z2, mI z3, mI (mwrap (z4 + 1))], [], y2.1)
  else
   some (y2.1, 0))))))) := by
  exact (srun_unr _ [8] 12 _).trans rfl
/-! GridQuarrels$Seer.setGrids(II)V: method 86; stops [2] -/
theorem b_Seer_setGrids (Ln d : Nat) (σ : mmSt) (x0 x1 : Int) : srun (lyT Ln) ((d + 1), 86, 0, [mR 47, mI x0, mI x1, mJ], [], σ) =
 srun (lyT Ln) ((d + 1), 86, 2, [mR 47, mI x0, mI x1, mI 0], [], σ) := by
  exact (srun_unr _ [2] 2 _).trans rfl
theorem b_Seer_setGrids_2 (Ln d : Nat) (σ : mmSt) (z1 z2 z3 : Int) : srun (lyT Ln) ((d + 1), 86, 2, [mR 47, mI z1, mI z2, mI z3], [], σ) =
 (bif decide ((σ 58 1) ≤ z3) then
  some (σ, 0)
 else
  (Option.bind (srun (lyT Ln) (d, 151, 0, [mI z1, mI z3], [], σ)) (fun y1 =>
  (bif decide (y1.2 = 0) then
   srun (lyT Ln) ((d + 1), 86, 2, [mR 47, mI z1, mI z2, mI (mwrap (z3 + 1))], [], y1.1)
  else
   (bif minb z3 7 then
   srun (lyT Ln) ((d + 1), 86, 2, [mR 47, mI z1, mI z2, mI (mwrap (z3 + 1))], [], (mup y1.1 62 (Int.toNat z3) z2))
   else none))))) := by
  exact (srun_unr _ [2] 17 _).trans rfl
/-! GridQuarrels$Seer.isEntered(I)Z: method 87; stops [2] -/
theorem b_Seer_isEntered (Ln d : Nat) (σ : mmSt) (x0 : Int) : srun (lyT Ln) ((d + 1), 87, 0, [mR 47, mI x0, mJ], [], σ) =
 srun (lyT Ln) ((d + 1), 87, 2, [mR 47, mI x0, mI 0], [], σ) := by
  exact (srun_unr _ [2] 2 _).trans rfl
theorem b_Seer_isEntered_2 (Ln d : Nat) (σ : mmSt) (z1 z2 : Int) : srun (lyT Ln) ((d + 1), 87, 2, [mR 47, mI z1, mI z2], [], σ) =
 (bif decide ((σ 48 2) ≤ z2) then
  some (σ, 0)
 else
  (bif minb z2 5 then
  (bif decide ((σ 54 (Int.toNat z2)) = z1) then
   srun (lyT Ln) ((d + 1), 87, 2, [mR 47, mI z1, mI (mwrap (z2 + 1))], [], σ)
  else
   (bif minb z2 5 then
   (bif decide (¬ (σ 64 (Int.toNat z2)) = z1) then
    srun (lyT Ln) ((d + 1), 87, 2, [mR 47, mI z1, mI (mwrap (z2 + 1))], [], σ)
   else
    some (σ, 1))
   else none))
  else none)) := by
  exact (srun_unr _ [2] 21 _).trans rfl
/-! GridQuarrels$Seer.fewestLures(III)I: method 88; stops [6] -/
theorem b_Seer_fewestLures (Ln d : Nat) (σ : mmSt) (x0 x1 x2 : Int) : srun (lyT Ln) ((d + 1), 88, 0, [mR 47, mI x0, mI x1, mI x2, mJ, mJ, mJ], [], σ) =
 srun (lyT Ln) ((d + 1), 88, 6, [mR 47, mI x0, mI x1, mI x2, mI (-1000000), mI 8, mI 0], [], σ) := by
  exact (srun_unr _ [6] 6 _).trans rfl
theorem b_Seer_fewestLures_6 (Ln d : Nat) (σ : mmSt) (z1 z2 z3 z4 z5 z6 : Int) : srun (lyT Ln) ((d + 1), 88, 6, [mR 47, mI z1, mI z2, mI z3, mI z4, mI z5, mI z6], [], σ) =
 (bif decide ((mshl 1 (σ 48 0)) ≤ z6) then
  some (σ, z4)
 else
  (Option.bind (srun (lyT Ln) (d, 0, 0, [mI z6], [], σ)) (fun y1 =>
  (bif decide (z5 ≤ y1.2) then
   srun (lyT Ln) ((d + 1), 88, 6, [mR 47, mI z1, mI z2, mI z3, mI z4, mI z5, mI (mwrap (z6 + 1))], [], y1.1)
  else
   (Option.bind (srun (lyT Ln) (d, 89, 0, [mR 47, mI z6, mI z1, mI z2, mI z3, mJ], [], y1.1)) (fun y2 =>
   (bif decide (y2.2 = 0) then
    srun (lyT Ln) ((d + 1), 88, 6, [mR 47, mI z1, mI z2, mI z3, mI z4, mI z5, mI (mwrap (z6 + 1))], [], y2.1)
   else
    (Option.bind (srun (lyT Ln) (d, 0, 0, [mI z6], [], y2.1)) (fun y3 =>
    srun (lyT Ln) ((d + 1), 88, 6, [mR 47, mI z1, mI z2, mI z3, mI z6, mI y3.2, mI (mwrap (z6 + 1))], [], y3.1)))))))))) := by
  exact (srun_unr _ [6] 25 _).trans rfl
/-! GridQuarrels$Seer.isLured(IIII)Z: method 89; stops [4] -/
theorem b_Seer_isLured (Ln d : Nat) (σ : mmSt) (x0 x1 x2 x3 : Int) : srun (lyT Ln) ((d + 1), 89, 0, [mR 47, mI x0, mI x1, mI x2, mI x3, mJ], [], σ) =
 (Option.bind (srun (lyT Ln) (d, 78, 0, [mR 47], [], σ)) (fun y1 =>
 srun (lyT Ln) ((d + 1), 89, 4, [mR 47, mI x0, mI x1, mI x2, mI x3, mI 0], [], y1.1))) := by
  exact (srun_unr _ [4] 4 _).trans rfl
theorem b_Seer_isLured_4 (Ln d : Nat) (σ : mmSt) (z1 z2 z3 z4 z5 : Int) : srun (lyT Ln) ((d + 1), 89, 4, [mR 47, mI z1, mI z2, mI z3, mI z4, mI z5], [], σ) =
 (bif decide ((σ 58 0) ≤ z5) then
  (Option.bind (srun (lyT Ln) (d, 79, 0, [mR 47, mI z4, mJ], [], σ)) (fun y1 =>
  (Option.bind (srun (lyT Ln) (d, 38, 0, [mR 58, mI z2, mI z3], [], y1.1)) (fun y2 =>
  (bif decide (0 ≤ y2.2) && decide (y2.2 ≤ 1) then some (y2.1, y2.2) else none)))))
 else
  (Option.bind (srun (lyT Ln) (d, 151, 0, [mI z1, mI z5], [], σ)) (fun y3 =>
  (bif decide (y3.2 = 0) then
   srun (lyT Ln) ((d + 1), 89, 4, [mR 47, mI z1, mI z2, mI z3, mI z4, mI (mwrap (z5 + 1))], [], y3.1)
  else
   (Option.bind (srun (lyT Ln) (d, 35, 0, [mR 58, mI z5, mI 9], [], y3.1)) (fun y4 =>
   srun (lyT Ln) ((d + 1), 89, 4, [mR 47, mI z1, mI z2, mI z3, mI z4, mI (mwrap (z5 + 1))], [], y4.1))))))) := by
  exact (srun_unr _ [4] 16 _).trans rfl
/-! GridQuarrels$Seer.worstLoss(I)I: method 90; stops [6] -/
theorem b_Seer_worstLoss (Ln d : Nat) (σ : mmSt) (x0 : Int) : srun (lyT Ln) ((d + 1), 90, 0, [mR 47, mI x0, mJ, mJ, mJ, mJ], [], σ) =
 srun (lyT Ln) ((d + 1), 90, 6, [mR 47, mI x0, mI (-1000000), mI 61, mI 0, mJ], [], σ) := by
  exact (srun_unr _ [6] 6 _).trans rfl
theorem b_Seer_worstLoss_6 (Ln d : Nat) (σ : mmSt) (z1 z2 z3 z4 : Int) (v5 : mmV) : srun (lyT Ln) ((d + 1), 90, 6, [mR 47, mI z1, mI z2, mI z3, mI z4, v5], [], σ) =
 (bif decide ((σ 48 0) ≤ z4) then
  some (σ, z2)
 else
  (Option.bind (srun (lyT Ln) (d, 19, 0, [mR 48, mI z1], [], σ)) (fun y1 =>
  (bif decide (¬ y1.2 = 0) then
   some (y1.1, z2)
  else
   (Option.bind (srun (lyT Ln) (d, 91, 0, [mR 47, mI z1, mI z4], [], y1.1)) (fun y2 =>
   (bif decide (y2.2 = (-1000000)) then
    srun (lyT Ln) ((d + 1), 90, 6, [mR 47, mI z1, mI z2, mI z3, mI (mwrap (z4 + 1)), mI y2.2], [], y2.1)
   else
    (bif decide (z3 ≤ y2.2) then
     srun (lyT Ln) ((d + 1), 90, 6, [mR 47, mI z1, mI z2, mI z3, mI (mwrap (z4 + 1)), mI y2.2], [], y2.1)
    else
     srun (lyT Ln) ((d + 1), 90, 6, [mR 47, mI z1, mI z4, mI y2.2, mI (mwrap (z4 + 1)), mI y2.2], [], y2.1))))))))) := by
  exact (srun_unr _ [6] 27 _).trans rfl
/-! GridQuarrels$Seer.deathWithout(II)I: method 91; stops [] -/
theorem b_Seer_deathWithout (Ln d : Nat) (σ : mmSt) (x0 x1 : Int) : srun (lyT Ln) ((d + 1), 91, 0, [mR 47, mI x0, mI x1], [], σ) =
 (Option.bind (srun (lyT Ln) (d, 78, 0, [mR 47], [], σ)) (fun y1 =>
 (bif minb x1 7 then
 (Option.bind (srun (lyT Ln) (d, 81, 0, [mR 47, mI x0, mJ], [], (mup y1.1 59 (Int.toNat x1) 0))) (fun y2 =>
 some (y2.1, y2.2)))
 else none))) := by
  exact (srun_unr _ [] 12 _).trans rfl
/-! GridQuarrels$Seer.fits(II)Z: method 92; stops [2] -/
theorem b_Seer_fits (Ln d : Nat) (σ : mmSt) (x0 x1 : Int) : srun (lyT Ln) ((d + 1), 92, 0, [mR 47, mI x0, mI x1, mJ], [], σ) =
 srun (lyT Ln) ((d + 1), 92, 2, [mR 47, mI x0, mI x1, mI 0], [], σ) := by
  exact (srun_unr _ [2] 2 _).trans rfl
theorem b_Seer_fits_2 (Ln d : Nat) (σ : mmSt) (z1 z2 z3 : Int) : srun (lyT Ln) ((d + 1), 92, 2, [mR 47, mI z1, mI z2, mI z3], [], σ) =
 (bif decide (z2 ≤ z3) then
  some (σ, 1)
 else
  (bif decide (12 ≤ z3) then
   some (σ, 1)
  else
   (Option.bind (srun (lyT Ln) (d, 32, 0, [mR 58, mJ], [], σ)) (fun y1 =>
   (bif minb z1 5 then
   (bif minb z3 12 then
   (bif decide ((y1.1 64 (Int.toNat z1)) = (y1.1 68 (Int.toNat z3))) then
    srun (lyT Ln) ((d + 1), 92, 2, [mR 47, mI z1, mI z2, mI (mwrap (z3 + 1))], [], y1.1)
   else
    some (y1.1, 0))
   else none)
   else none))))) := by
  exact (srun_unr _ [2] 21 _).trans rfl
/-! GridQuarrels$Seer.kindsThatFit(II)I: method 93; stops [4] -/
theorem b_Seer_kindsThatFit (Ln d : Nat) (σ : mmSt) (x0 x1 : Int) : srun (lyT Ln) ((d + 1), 93, 0, [mR 47, mI x0, mI x1, mJ, mJ], [], σ) =
 srun (lyT Ln) ((d + 1), 93, 4, [mR 47, mI x0, mI x1, mI 0, mI 1], [], σ) := by
  exact (srun_unr _ [4] 4 _).trans rfl
theorem b_Seer_kindsThatFit_4 (Ln d : Nat) (σ : mmSt) (z1 z2 z3 z4 : Int) : srun (lyT Ln) ((d + 1), 93, 4, [mR 47, mI z1, mI z2, mI z3, mI z4], [], σ) =
 (bif decide (5 < z4) then
  some (σ, z3)
 else
  (Option.bind (srun (lyT Ln) (d, 78, 0, [mR 47], [], σ)) (fun y1 =>
  (bif minb z1 5 then
  (Option.bind (srun (lyT Ln) (d, 92, 0, [mR 47, mI z1, mI z2, mJ], [], (mup y1.1 63 (Int.toNat z1) z4))) (fun y2 =>
  (bif decide (y2.2 = 0) then
   srun (lyT Ln) ((d + 1), 93, 4, [mR 47, mI z1, mI z2, mI z3, mI (mwrap (z4 + 1))], [], y2.1)
  else
   srun (lyT Ln) ((d + 1), 93, 4, [mR 47, mI z1, mI z2, mI (mor z3 (mshl 1 z4)), mI (mwrap (z4 + 1))], [], y2.1))))
  else none)))) := by
  exact (srun_unr _ [4] 24 _).trans rfl
/-! GridQuarrels$Seer.sizesThatFit(II)I: method 94; stops [4] -/
theorem b_Seer_sizesThatFit (Ln d : Nat) (σ : mmSt) (x0 x1 : Int) : srun (lyT Ln) ((d + 1), 94, 0, [mR 47, mI x0, mI x1, mJ, mJ], [], σ) =
 srun (lyT Ln) ((d + 1), 94, 4, [mR 47, mI x0, mI x1, mI 0, mI 1], [], σ) := by
  exact (srun_unr _ [4] 4 _).trans rfl
theorem b_Seer_sizesThatFit_4 (Ln d : Nat) (σ : mmSt) (z1 z2 z3 z4 : Int) : srun (lyT Ln) ((d + 1), 94, 4, [mR 47, mI z1, mI z2, mI z3, mI z4], [], σ) =
 (bif decide (9 < z4) then
  some (σ, z3)
 else
  (Option.bind (srun (lyT Ln) (d, 78, 0, [mR 47], [], σ)) (fun y1 =>
  (bif minb z1 5 then
  (Option.bind (srun (lyT Ln) (d, 92, 0, [mR 47, mI z1, mI z2, mJ], [], (mup y1.1 65 (Int.toNat z1) z4))) (fun y2 =>
  (bif decide (y2.2 = 0) then
   srun (lyT Ln) ((d + 1), 94, 4, [mR 47, mI z1, mI z2, mI z3, mI (mwrap (z4 + 1))], [], y2.1)
  else
   srun (lyT Ln) ((d + 1), 94, 4, [mR 47, mI z1, mI z2, mI (mor z3 (mshl 1 z4)), mI (mwrap (z4 + 1))], [], y2.1))))
  else none)))) := by
  exact (srun_unr _ [4] 24 _).trans rfl
/-! GridQuarrels$Seer.placesThatFit(II)I: method 95; stops [4] -/
theorem b_Seer_placesThatFit (Ln d : Nat) (σ : mmSt) (x0 x1 : Int) : srun (lyT Ln) ((d + 1), 95, 0, [mR 47, mI x0, mI x1, mJ, mJ], [], σ) =
 srun (lyT Ln) ((d + 1), 95, 4, [mR 47, mI x0, mI x1, mI 0, mI 0], [], σ) := by
  exact (srun_unr _ [4] 4 _).trans rfl
theorem b_Seer_placesThatFit_4 (Ln d : Nat) (σ : mmSt) (z1 z2 z3 z4 : Int) : srun (lyT Ln) ((d + 1), 95, 4, [mR 47, mI z1, mI z2, mI z3, mI z4], [], σ) =
 (bif decide ((σ 48 0) ≤ z4) then
  some (σ, z3)
 else
  (Option.bind (srun (lyT Ln) (d, 78, 0, [mR 47], [], σ)) (fun y1 =>
  (bif minb z1 5 then
  (Option.bind (srun (lyT Ln) (d, 92, 0, [mR 47, mI z1, mI z2, mJ], [], (mup y1.1 64 (Int.toNat z1) z4))) (fun y2 =>
  (bif decide (y2.2 = 0) then
   srun (lyT Ln) ((d + 1), 95, 4, [mR 47, mI z1, mI z2, mI z3, mI (mwrap (z4 + 1))], [], y2.1)
  else
   srun (lyT Ln) ((d + 1), 95, 4, [mR 47, mI z1, mI z2, mI (mor z3 (mshl 1 z4)), mI (mwrap (z4 + 1))], [], y2.1))))
  else none)))) := by
  exact (srun_unr _ [4] 26 _).trans rfl
/-! GridQuarrels$Seer.gridsThatFit(III)I: method 96; stops [4] -/
theorem b_Seer_gridsThatFit (Ln d : Nat) (σ : mmSt) (x0 x1 x2 : Int) : srun (lyT Ln) ((d + 1), 96, 0, [mR 47, mI x0, mI x1, mI x2, mJ, mJ], [], σ) =
 srun (lyT Ln) ((d + 1), 96, 4, [mR 47, mI x0, mI x1, mI x2, mI 0, mI 0], [], σ) := by
  exact (srun_unr _ [4] 4 _).trans rfl
theorem b_Seer_gridsThatFit_4 (Ln d : Nat) (σ : mmSt) (z1 z2 z3 z4 z5 : Int) : srun (lyT Ln) ((d + 1), 96, 4, [mR 47, mI z1, mI z2, mI z3, mI z4, mI z5], [], σ) =
 (bif decide (9 < z5) then
  some (σ, z4)
 else
  (Option.bind (srun (lyT Ln) (d, 78, 0, [mR 47], [], σ)) (fun y1 =>
  (bif minb z1 7 then
  (Option.bind (srun (lyT Ln) (d, 92, 0, [mR 47, mI z2, mI z3, mJ], [], (mup y1.1 62 (Int.toNat z1) z5))) (fun y2 =>
  (bif decide (y2.2 = 0) then
   srun (lyT Ln) ((d + 1), 96, 4, [mR 47, mI z1, mI z2, mI z3, mI z4, mI (mwrap (z5 + 1))], [], y2.1)
  else
   srun (lyT Ln) ((d + 1), 96, 4, [mR 47, mI z1, mI z2, mI z3, mI (mor z4 (mshl 1 z5)), mI (mwrap (z5 + 1))], [], y2.1))))
  else none)))) := by
  exact (srun_unr _ [4] 24 _).trans rfl
/-! GridQuarrels$Seer.quarrelsThatFit(I)I: method 97; stops [4] -/
theorem b_Seer_quarrelsThatFit (Ln d : Nat) (σ : mmSt) (x0 : Int) : srun (lyT Ln) ((d + 1), 97, 0, [mR 47, mI x0, mJ, mJ], [], σ) =
 srun (lyT Ln) ((d + 1), 97, 4, [mR 47, mI x0, mI 0, mI 0], [], σ) := by
  exact (srun_unr _ [4] 4 _).trans rfl
theorem b_Seer_quarrelsThatFit_4 (Ln d : Nat) (σ : mmSt) (z1 z2 z3 : Int) : srun (lyT Ln) ((d + 1), 97, 4, [mR 47, mI z1, mI z2, mI z3], [], σ) =
 (bif decide ((σ 48 2) ≤ z3) then
  some (σ, z2)
 else
  (Option.bind (srun (lyT Ln) (d, 78, 0, [mR 47], [], σ)) (fun y1 =>
  (Option.bind (srun (lyT Ln) (d, 92, 0, [mR 47, mI z3, mI z1, mJ], [], y1.1)) (fun y2 =>
  (bif decide (y2.2 = 0) then
   srun (lyT Ln) ((d + 1), 97, 4, [mR 47, mI z1, mI z2, mI (mwrap (z3 + 1))], [], y2.1)
  else
   srun (lyT Ln) ((d + 1), 97, 4, [mR 47, mI z1, mI (mor z2 (mshl 1 z3)), mI (mwrap (z3 + 1))], [], y2.1))))))) := by
  exact (srun_unr _ [4] 20 _).trans rfl
/-! GridQuarrels$Seer.roadsWithBars()I: method 98; stops [4] -/
theorem b_Seer_roadsWithBars (Ln d : Nat) (σ : mmSt) : srun (lyT Ln) ((d + 1), 98, 0, [mR 47, mJ, mJ], [], σ) =
 srun (lyT Ln) ((d + 1), 98, 4, [mR 47, mI 0, mI 0], [], σ) := by
  exact (srun_unr _ [4] 4 _).trans rfl
theorem b_Seer_roadsWithBars_4 (Ln d : Nat) (σ : mmSt) (z1 z2 : Int) : srun (lyT Ln) ((d + 1), 98, 4, [mR 47, mI z1, mI z2], [], σ) =
 (bif decide ((σ 48 1) ≤ z2) then
  some (σ, z1)
 else
  (bif minb z2 7 then
  (bif decide ((σ 52 (Int.toNat z2)) ≤ 0) then
   srun (lyT Ln) ((d + 1), 98, 4, [mR 47, mI z1, mI (mwrap (z2 + 1))], [], σ)
  else
   srun (lyT Ln) ((d + 1), 98, 4, [mR 47, mI (mor z1 (mshl 1 z2)), mI (mwrap (z2 + 1))], [], σ))
  else none)) := by
  exact (srun_unr _ [4] 19 _).trans rfl
/-! GridQuarrels$Seer.allCases()J: method 99; stops [] -/
theorem b_Seer_allCases (Ln d : Nat) (σ : mmSt) : srun (lyT Ln) ((d + 1), 99, 0, [mR 47], [], σ) =
 (Option.bind (srun (lyT Ln) (d, 98, 0, [mR 47, mJ, mJ], [], σ)) (fun y1 =>
 (Option.bind (srun (lyT Ln) (d, 0, 0, [mI y1.2], [], y1.1)) (fun y2 =>
 (Option.bind (srun (lyT Ln) (d, 103, 0, [mI 10, mI y2.2, mJ, mJ, mJ], [], y2.1)) (fun y3 =>
 some (y3.1, y3.2))))))) := by
  exact (srun_unr _ [] 6 _).trans rfl
/-! GridQuarrels$Seer.snowyCases(IIII)J: method 100; stops [7] -/
theorem b_Seer_snowyCases (Ln d : Nat) (σ : mmSt) (x0 x1 x2 x3 : Int) : srun (lyT Ln) ((d + 1), 100, 0, [mR 47, mI x0, mI x1, mI x2, mI x3, mJ, mJ, mJ, mJ, mJ, mJ], [], σ) =
 (Option.bind (srun (lyT Ln) (d, 98, 0, [mR 47, mJ, mJ], [], σ)) (fun y1 =>
 srun (lyT Ln) ((d + 1), 100, 7, [mR 47, mI x0, mI x1, mI x2, mI x3, mI y1.2, mL 0, mJ, mI 0, mJ, mJ], [], y1.1))) := by
  exact (srun_unr _ [7] 7 _).trans rfl
theorem b_Seer_snowyCases_7 (Ln d : Nat) (σ : mmSt) (z1 z2 z3 z4 z5 z6 z8 : Int) (v9 : mmV) : srun (lyT Ln) ((d + 1), 100, 7, [mR 47, mI z1, mI z2, mI z3, mI z4, mI z5, mL z6, mJ, mI z8, v9, mJ], [], σ) =
 (bif decide ((mshl 1 (σ 48 1)) ≤ z8) then
  some (σ, z6)
 else
  (bif decide (¬ (mand z8 (mxor z5 (-1))) = 0) then
   (bif decide ((mlcmp 0 0) ≤ 0) then
    srun (lyT Ln) ((d + 1), 100, 7, [mR 47, mI z1, mI z2, mI z3, mI z4, mI z5, mL z6, mJ, mI (mwrap (z8 + 1)), mL 0, mJ], [], σ)
   else
    (Option.bind (srun (lyT Ln) (d, 102, 0, [mR 47, mI z8, mI z1, mI z2, mI z3], [], σ)) (fun y1 =>
    (bif decide (y1.2 = 0) then
     srun (lyT Ln) ((d + 1), 100, 7, [mR 47, mI z1, mI z2, mI z3, mI z4, mI z5, mL z6, mJ, mI (mwrap (z8 + 1)), mL 0, mJ], [], y1.1)
    else
     srun (lyT Ln) ((d + 1), 100, 7, [mR 47, mI z1, mI z2, mI z3, mI z4, mI z5, mL (mwrapL (z6 + 0)), mJ, mI (mwrap (z8 + 1)), mL 0, mJ], [], y1.1)))))
  else
   (Option.bind (srun (lyT Ln) (d, 101, 0, [mI z8, mI z5, mI z4, mJ], [], σ)) (fun y2 =>
   (bif decide ((mlcmp y2.2 0) ≤ 0) then
    srun (lyT Ln) ((d + 1), 100, 7, [mR 47, mI z1, mI z2, mI z3, mI z4, mI z5, mL z6, mJ, mI (mwrap (z8 + 1)), mL y2.2, mJ], [], y2.1)
   else
    (Option.bind (srun (lyT Ln) (d, 102, 0, [mR 47, mI z8, mI z1, mI z2, mI z3], [], y2.1)) (fun y3 =>
    (bif decide (y3.2 = 0) then
     srun (lyT Ln) ((d + 1), 100, 7, [mR 47, mI z1, mI z2, mI z3, mI z4, mI z5, mL z6, mJ, mI (mwrap (z8 + 1)), mL y2.2, mJ], [], y3.1)
    else
     srun (lyT Ln) ((d + 1), 100, 7, [mR 47, mI z1, mI z2, mI z3, mI z4, mI z5, mL (mwrapL (z6 + y2.2)), mJ, mI (mwrap (z8 + 1)), mL y2.2, mJ], [], y3.1))))))))) := by
  exact (srun_unr _ [7] 36 _).trans rfl
/-! GridQuarrels$Seer.casesOf(III)J: method 101; stops [] -/
theorem b_Seer_casesOf (Ln d : Nat) (σ : mmSt) (x0 x1 x2 : Int) : srun (lyT Ln) ((d + 1), 101, 0, [mI x0, mI x1, mI x2, mJ], [], σ) =
 (Option.bind (srun (lyT Ln) (d, 0, 0, [mI (mand x1 (mxor x0 (-1)))], [], σ)) (fun y1 =>
 (Option.bind (srun (lyT Ln) (d, 0, 0, [mI x0], [], y1.1)) (fun y2 =>
 (Option.bind (srun (lyT Ln) (d, 103, 0, [mI x2, mI y2.2, mJ, mJ, mJ], [], y2.1)) (fun y3 =>
 (Option.bind (srun (lyT Ln) (d, 103, 0, [mI (mwrap (10 - x2)), mI y1.2, mJ, mJ, mJ], [], y3.1)) (fun y4 =>
 some (y4.1, (mwrapL (y3.2 * y4.2))))))))))) := by
  exact (srun_unr _ [] 18 _).trans rfl
/-! GridQuarrels$Seer.isThereIfFilled(IIII)Z: method 102; stops [] -/
theorem b_Seer_isThereIfFilled (Ln d : Nat) (σ : mmSt) (x0 x1 x2 x3 : Int) : srun (lyT Ln) ((d + 1), 102, 0, [mR 47, mI x0, mI x1, mI x2, mI x3], [], σ) =
 (Option.bind (srun (lyT Ln) (d, 78, 0, [mR 47], [], σ)) (fun y1 =>
 (Option.bind (srun (lyT Ln) (d, 86, 0, [mR 47, mI x0, mI 0, mJ], [], y1.1)) (fun y2 =>
 (Option.bind (srun (lyT Ln) (d, 79, 0, [mR 47, mI x3, mJ], [], y2.1)) (fun y3 =>
 (Option.bind (srun (lyT Ln) (d, 38, 0, [mR 58, mI x1, mI x2], [], y3.1)) (fun y4 =>
 (bif decide (0 ≤ y4.2) && decide (y4.2 ≤ 1) then some (y4.1, y4.2) else none))))))))) := by
  exact (srun_unr _ [] 15 _).trans rfl
/-! GridQuarrels$Seer.power(II)J: method 103; stops [4] -/
theorem b_Seer_power (Ln d : Nat) (σ : mmSt) (x0 x1 : Int) : srun (lyT Ln) ((d + 1), 103, 0, [mI x0, mI x1, mJ, mJ, mJ], [], σ) =
 srun (lyT Ln) ((d + 1), 103, 4, [mI x0, mI x1, mL 1, mJ, mI 0], [], σ) := by
  exact (srun_unr _ [4] 4 _).trans rfl
theorem b_Seer_power_4 (Ln d : Nat) (σ : mmSt) (z0 z1 z2 z4 : Int) : srun (lyT Ln) ((d + 1), 103, 4, [mI z0, mI z1, mL z2, mJ, mI z4], [], σ) =
 (bif decide (z1 ≤ z4) then
  some (σ, z2)
 else
  srun (lyT Ln) ((d + 1), 103, 4, [mI z0, mI z1, mL (mwrapL (z2 * z0)), mJ, mI (mwrap (z4 + 1))], [], σ)) := by
  exact (srun_unr _ [4] 10 _).trans rfl
/-! GridQuarrels$Seer.draw(II)V: method 104; stops [18] -/
theorem b_Seer_draw (Ln d : Nat) (σ : mmSt) (x0 x1 : Int) : srun (lyT Ln) ((d + 1), 104, 0, [mR 47, mI x0, mI x1, mJ, mJ, mJ], [], σ) =
 (Option.bind (srun (lyT Ln) (d, 78, 0, [mR 47], [], σ)) (fun y1 =>
 (bif decide ((y1.1 58 0) < 1) then
  some (y1.1, 0)
 else
  (bif decide (1 ≤ (y1.1 58 1)) then
   srun (lyT Ln) ((d + 1), 104, 18, [mR 47, mI x0, mI x1, mL x1, mJ, mI 0], [], y1.1)
  else
   some (y1.1, 0))))) := by
  exact (srun_unr _ [18] 17 _).trans rfl
set_option maxRecDepth 100000 in
theorem b_Seer_draw_18 (Ln d : Nat) (σ : mmSt) (z1 z2 z3 z5 : Int) : srun (lyT Ln) ((d + 1), 104, 18, [mR 47, mI z1, mI z2, mL z3, mJ, mI z5], [], σ) =
 (bif decide (z1 ≤ z5) then
  some (σ, 0)
 else
  (bif decide (¬ 2147483647 = 0) then
  (bif decide (¬ (σ 58 0) = 0) then
  (bif decide (¬ 5 = 0) then
  (Option.bind (srun (lyT Ln) (d, 35, 0, [mR 58, mI (mwrap (Int.tmod (Int.tmod (mwrapL (z3 * 16807)) 2147483647) (σ 58 0))), mI (mwrap (Int.tmod (Int.tmod (mwrapL (z3 * 16807)) 2147483647) 5))], [], σ)) (fun y1 =>
  (bif decide (¬ 6 = 0) then
  (bif decide (¬ (mlcmp (Int.tmod (Int.tmod (mwrapL (z3 * 16807)) 2147483647) 6) 0) = 0) then
   (Option.bind (srun (lyT Ln) (d, 32, 0, [mR 58, mJ], [], y1.1)) (fun y2 =>
   srun (lyT Ln) ((d + 1), 104, 18, [mR 47, mI z1, mI z2, mL (Int.tmod (mwrapL (z3 * 16807)) 2147483647), mJ, mI (mwrap (z5 + 1))], [], y2.1)))
  else
   (bif decide (¬ (y1.1 58 1) = 0) then
   (bif minb (mwrap (Int.tmod (Int.tmod (mwrapL (z3 * 16807)) 2147483647) (y1.1 58 1))) 7 then
   (Option.bind (srun (lyT Ln) (d, 32, 0, [mR 58, mJ], [], (mup y1.1 62 (Int.toNat (mwrap (Int.tmod (Int.tmod (mwrapL (z3 * 16807)) 2147483647) (y1.1 58 1)))) 0))) (fun y3 =>
   srun (lyT Ln) ((d + 1), 104, 18, [mR 47, mI z1, mI z2, mL (Int.tmod (mwrapL (z3 * 16807)) 2147483647), mJ, mI (mwrap (z5 + 1))], [], y3.1)))
   else none)
   else none))
  else none)))
  else none)
  else none)
  else none)) := by
  exact (srun_unr _ [18] 46 _).trans rfl
/-! GridQuarrels.row(III)I: method 106; stops [] -/
theorem b_X_row (Ln d : Nat) (σ : mmSt) (x0 x1 x2 : Int) : srun (lyT Ln) ((d + 1), 106, 0, [mR 4, mI x0, mI x1, mI x2], [], σ) =
 (Option.bind (srun (lyT Ln) (d, 65, 0, [mR 5, mI x0], [], σ)) (fun y1 =>
 (bif decide (y1.2 = 0) then
  some (y1.1, (-1000001))
 else
  (Option.bind (srun (lyT Ln) (d, 150, 0, [mI x1, mI 0, mI 2], [], y1.1)) (fun y2 =>
  (bif decide (y2.2 = 0) then
   some (y2.1, (-1000001))
  else
   (bif decide (x2 ≤ 40) then
    (bif decide (0 ≤ x2) then
     (Option.bind (srun (lyT Ln) (d, 71, 0, [mR 5, mI x0, mI x1, mI x2, mJ], [], y2.1)) (fun y3 =>
     (Option.bind (srun (lyT Ln) (d, 149, 0, [mR 4, mI x2], [], y3.1)) (fun y4 =>
     some (y4.1, y4.2)))))
    else
     (Option.bind (srun (lyT Ln) (d, 148, 0, [mR 4, mI 4], [], y2.1)) (fun y5 =>
     some (y5.1, y5.2))))
   else
    some (y2.1, (-1000001))))))))) := by
  exact (srun_unr _ [] 25 _).trans rfl
/-! GridQuarrels.set(III)I: method 107; stops [] -/
theorem b_X_set (Ln d : Nat) (σ : mmSt) (x0 x1 x2 : Int) : srun (lyT Ln) ((d + 1), 107, 0, [mR 4, mI x0, mI x1, mI x2, mJ], [], σ) =
 (Option.bind (srun (lyT Ln) (d, 65, 0, [mR 5, mI x0], [], σ)) (fun y1 =>
 (bif decide (¬ y1.2 = 0) then
  (Option.bind (srun (lyT Ln) (d, 68, 0, [mR 5, mI x0, mI x1, mI 1], [], y1.1)) (fun y2 =>
  (bif decide (y2.2 = 0) then
   (Option.bind (srun (lyT Ln) (d, 73, 0, [mR 5, mI x0, mI x1, mI x2, mJ], [], y2.1)) (fun y3 =>
   (Option.bind (srun (lyT Ln) (d, 149, 0, [mR 4, mI y3.2], [], y3.1)) (fun y4 =>
   some (y4.1, y4.2)))))
  else
   (Option.bind (srun (lyT Ln) (d, 148, 0, [mR 4, mI y2.2], [], y2.1)) (fun y5 =>
   some (y5.1, y5.2))))))
 else
  some (y1.1, (-1000001))))) := by
  exact (srun_unr _ [] 23 _).trans rfl
/-! GridQuarrels.copy(IIIII)I: method 108; stops [] -/
theorem b_X_copy (Ln d : Nat) (σ : mmSt) (x0 x1 x2 x3 x4 : Int) : srun (lyT Ln) ((d + 1), 108, 0, [mR 4, mI x0, mI x1, mI x2, mI x3, mI x4, mJ], [], σ) =
 (Option.bind (srun (lyT Ln) (d, 65, 0, [mR 5, mI x0], [], σ)) (fun y1 =>
 (bif decide (y1.2 = 0) then
  some (y1.1, (-1000001))
 else
  (Option.bind (srun (lyT Ln) (d, 65, 0, [mR 5, mI x2], [], y1.1)) (fun y2 =>
  (bif decide (¬ y2.2 = 0) then
   (Option.bind (srun (lyT Ln) (d, 69, 0, [mR 5, mI x0, mI x1, mI x2, mI x3, mI x4], [], y2.1)) (fun y3 =>
   (bif decide (y3.2 = 0) then
    (Option.bind (srun (lyT Ln) (d, 75, 0, [mR 5, mI x0, mI x1, mI x2, mI x3, mI x4], [], y3.1)) (fun y4 =>
    (Option.bind (srun (lyT Ln) (d, 149, 0, [mR 4, mI x4], [], y4.1)) (fun y5 =>
    some (y5.1, y5.2)))))
   else
    (Option.bind (srun (lyT Ln) (d, 148, 0, [mR 4, mI y3.2], [], y3.1)) (fun y6 =>
    some (y6.1, y6.2))))))
  else
   some (y2.1, (-1000001)))))))) := by
  exact (srun_unr _ [] 33 _).trans rfl
/-! GridQuarrels.drop(I)I: method 109; stops [] -/
theorem b_X_drop (Ln d : Nat) (σ : mmSt) (x0 : Int) : srun (lyT Ln) ((d + 1), 109, 0, [mR 4, mI x0], [], σ) =
 (Option.bind (srun (lyT Ln) (d, 65, 0, [mR 5, mI x0], [], σ)) (fun y1 =>
 (bif decide (¬ y1.2 = 0) then
  (Option.bind (srun (lyT Ln) (d, 66, 0, [mR 5, mI x0], [], y1.1)) (fun y2 =>
  (bif decide (y2.2 = 0) then
   (Option.bind (srun (lyT Ln) (d, 72, 0, [mR 5, mI x0, mJ], [], y2.1)) (fun y3 =>
   (Option.bind (srun (lyT Ln) (d, 149, 0, [mR 4, mI y3.2], [], y3.1)) (fun y4 =>
   some (y4.1, y4.2)))))
  else
   (Option.bind (srun (lyT Ln) (d, 148, 0, [mR 4, mI 1], [], y2.1)) (fun y5 =>
   some (y5.1, y5.2))))))
 else
  some (y1.1, (-1000001))))) := by
  exact (srun_unr _ [] 17 _).trans rfl
/-! GridQuarrels.feed(I)I: method 110; stops [] -/
theorem b_X_feed (Ln d : Nat) (σ : mmSt) (x0 : Int) : srun (lyT Ln) ((d + 1), 110, 0, [mR 4, mI x0], [], σ) =
 (Option.bind (srun (lyT Ln) (d, 150, 0, [mI x0, mI 0, mI 255], [], σ)) (fun y1 =>
 (bif decide (¬ y1.2 = 0) then
  (Option.bind (srun (lyT Ln) (d, 48, 0, [mR 9], [], y1.1)) (fun y2 =>
  (bif decide (y2.2 = 0) then
   (Option.bind (srun (lyT Ln) (d, 49, 0, [mR 9, mI x0], [], y2.1)) (fun y3 =>
   some (y3.1, y3.2)))
  else
   some (y2.1, (-1000003)))))
 else
  some (y1.1, (-1000001))))) := by
  exact (srun_unr _ [] 14 _).trans rfl
/-! GridQuarrels.county()I: method 111; stops [] -/
theorem b_X_county (Ln d : Nat) (σ : mmSt) : srun (lyT Ln) ((d + 1), 111, 0, [mR 4, mJ], [], σ) =
 (Option.bind (srun (lyT Ln) (d, 50, 0, [mR 9], [], σ)) (fun y1 =>
 (bif decide (y1.2 = (-1000000)) then
  (Option.bind (srun (lyT Ln) (d, 24, 0, [mR 48, mR 10, mJ], [], y1.1)) (fun y2 =>
  (Option.bind (srun (lyT Ln) (d, 4, 0, [mR 21], [], y2.1)) (fun y3 =>
  some (y3.1, (y3.1 48 2))))))
 else
  some (y1.1, (mwrap ((-1000100) - y1.2)))))) := by
  exact (srun_unr _ [] 20 _).trans rfl
/-! GridQuarrels.fault()I: method 112; stops [] -/
theorem b_X_fault (Ln d : Nat) (σ : mmSt) : srun (lyT Ln) ((d + 1), 112, 0, [mR 4], [], σ) =
 some (σ, (σ 9 2)) := by
  exact (srun_unr _ [] 4 _).trans rfl
/-! GridQuarrels.undo()I: method 113; stops [] -/
theorem b_X_undo (Ln d : Nat) (σ : mmSt) : srun (lyT Ln) ((d + 1), 113, 0, [mR 4], [], σ) =
 (bif decide (¬ (σ 21 0) = 0) then
  (Option.bind (srun (lyT Ln) (d, 6, 0, [mR 21, mR 48], [], σ)) (fun y1 =>
  some (y1.1, (y1.1 21 0))))
 else
  some (σ, (-1000002))) := by
  exact (srun_unr _ [] 13 _).trans rfl
/-! GridQuarrels.years(I)I: method 114; stops [24] -/
theorem b_X_years (Ln d : Nat) (σ : mmSt) (x0 : Int) : srun (lyT Ln) ((d + 1), 114, 0, [mR 4, mI x0, mJ], [], σ) =
 (Option.bind (srun (lyT Ln) (d, 15, 0, [mR 48], [], σ)) (fun y1 =>
 (bif decide (¬ y1.2 = 0) then
  (Option.bind (srun (lyT Ln) (d, 150, 0, [mI x0, mI 1, mI 24], [], y1.1)) (fun y2 =>
  (bif decide (¬ y2.2 = 0) then
   (bif decide ((mwrap ((y2.1 48 3) + x0)) ≤ 999) then
    srun (lyT Ln) ((d + 1), 114, 24, [mR 4, mI x0, mI 0], [], y2.1)
   else
    some (y2.1, (-1000003)))
  else
   some (y2.1, (-1000001)))))
 else
  some (y1.1, (-1000002))))) := by
  exact (srun_unr _ [24] 18 _).trans rfl
theorem b_X_years_24 (Ln d : Nat) (σ : mmSt) (z1 z2 : Int) : srun (lyT Ln) ((d + 1), 114, 24, [mR 4, mI z1, mI z2], [], σ) =
 (bif decide (z1 ≤ z2) then
  (Option.bind (srun (lyT Ln) (d, 37, 0, [mR 48, mJ, mJ], [], σ)) (fun y1 =>
  some (y1.1, y1.2)))
 else
  (Option.bind (srun (lyT Ln) (d, 5, 0, [mR 21, mR 48], [], σ)) (fun y2 =>
  (Option.bind (srun (lyT Ln) (d, 32, 0, [mR 48, mJ], [], y2.1)) (fun y3 =>
  srun (lyT Ln) ((d + 1), 114, 24, [mR 4, mI z1, mI (mwrap (z2 + 1))], [], y3.1)))))) := by
  exact (srun_unr _ [24] 13 _).trans rfl
/-! GridQuarrels.hay(II)I: method 115; stops [] -/
theorem b_X_hay (Ln d : Nat) (σ : mmSt) (x0 x1 : Int) : srun (lyT Ln) ((d + 1), 115, 0, [mR 4, mI x0, mI x1], [], σ) =
 (Option.bind (srun (lyT Ln) (d, 16, 0, [mR 48, mI x0], [], σ)) (fun y1 =>
 (bif decide (y1.2 = 0) then
  some (y1.1, (-1000001))
 else
  (Option.bind (srun (lyT Ln) (d, 150, 0, [mI x1, mI 1, mI 9], [], y1.1)) (fun y2 =>
  (bif decide (¬ y2.2 = 0) then
   (Option.bind (srun (lyT Ln) (d, 5, 0, [mR 21, mR 48], [], y2.1)) (fun y3 =>
   (Option.bind (srun (lyT Ln) (d, 35, 0, [mR 48, mI x0, mI x1], [], y3.1)) (fun y4 =>
   (bif minb x0 7 then
   some (y4.1, (y4.1 49 (Int.toNat x0)))
   else none)))))
  else
   some (y2.1, (-1000001)))))))) := by
  exact (srun_unr _ [] 26 _).trans rfl
/-! GridQuarrels.grid(II)I: method 116; stops [] -/
theorem b_X_grid (Ln d : Nat) (σ : mmSt) (x0 x1 : Int) : srun (lyT Ln) ((d + 1), 116, 0, [mR 4, mI x0, mI x1, mJ], [], σ) =
 (Option.bind (srun (lyT Ln) (d, 17, 0, [mR 48, mI x0], [], σ)) (fun y1 =>
 (bif decide (y1.2 = 0) then
  some (y1.1, (-1000001))
 else
  (Option.bind (srun (lyT Ln) (d, 150, 0, [mI x1, mI 0, mI 9], [], y1.1)) (fun y2 =>
  (bif decide (¬ y2.2 = 0) then
   (bif minb x0 7 then
   (Option.bind (srun (lyT Ln) (d, 5, 0, [mR 21, mR 48], [], y2.1)) (fun y3 =>
   (bif minb x0 7 then
   some ((mup y3.1 52 (Int.toNat x0) x1), (y2.1 52 (Int.toNat x0)))
   else none)))
   else none)
  else
   some (y2.1, (-1000001)))))))) := by
  exact (srun_unr _ [] 29 _).trans rfl
/-! GridQuarrels.drive(II)I: method 117; stops [] -/
set_option maxRecDepth 100000 in
theorem b_X_drive (Ln d : Nat) (σ : mmSt) (x0 x1 : Int) : srun (lyT Ln) ((d + 1), 117, 0, [mR 4, mI x0, mI x1, mJ], [], σ) =
 (Option.bind (srun (lyT Ln) (d, 18, 0, [mR 48, mI x0], [], σ)) (fun y1 =>
 (bif decide (y1.2 = 0) then
  some (y1.1, (-1000001))
 else
  (Option.bind (srun (lyT Ln) (d, 17, 0, [mR 48, mI x1], [], y1.1)) (fun y2 =>
  (bif decide (¬ y2.2 = 0) then
   (bif minb x0 5 then
   (Option.bind (srun (lyT Ln) (d, 19, 0, [mR 48, mI x0], [], y2.1)) (fun y3 =>
   (bif decide (¬ y3.2 = 0) then
    some (y3.1, (-1000002))
   else
    (Option.bind (srun (lyT Ln) (d, 27, 0, [mR 48, mI x1, mI (y2.1 54 (Int.toNat x0))], [], y3.1)) (fun y4 =>
    (bif decide (¬ y4.2 = 0) then
     (Option.bind (srun (lyT Ln) (d, 5, 0, [mR 21, mR 48], [], y4.1)) (fun y5 =>
     (Option.bind (srun (lyT Ln) (d, 28, 0, [mR 48, mI x1, mI (y2.1 54 (Int.toNat x0))], [], y5.1)) (fun y6 =>
     (bif minb x0 5 then
     (bif minb x0 5 then
     some ((mup y6.1 54 (Int.toNat x0) y6.2), ((mup y6.1 54 (Int.toNat x0) y6.2) 54 (Int.toNat x0)))
     else none)
     else none)))))
    else
     some (y4.1, (-1000002))))))))
   else none)
  else
   some (y2.1, (-1000001)))))))) := by
  exact (srun_unr _ [] 48 _).trans rfl
/-! GridQuarrels.grow(II)I: method 118; stops [] -/
theorem b_X_grow (Ln d : Nat) (σ : mmSt) (x0 x1 : Int) : srun (lyT Ln) ((d + 1), 118, 0, [mR 4, mI x0, mI x1, mJ], [], σ) =
 (Option.bind (srun (lyT Ln) (d, 18, 0, [mR 48, mI x0], [], σ)) (fun y1 =>
 (bif decide (y1.2 = 0) then
  some (y1.1, (-1000001))
 else
  (Option.bind (srun (lyT Ln) (d, 150, 0, [mI x1, mI 1, mI 9], [], y1.1)) (fun y2 =>
  (bif decide (¬ y2.2 = 0) then
   (Option.bind (srun (lyT Ln) (d, 19, 0, [mR 48, mI x0], [], y2.1)) (fun y3 =>
   (bif decide (y3.2 = 0) then
    (bif minb x0 5 then
    (Option.bind (srun (lyT Ln) (d, 5, 0, [mR 21, mR 48], [], y3.1)) (fun y4 =>
    (bif minb x0 5 then
    some ((mup y4.1 55 (Int.toNat x0) x1), (y3.1 55 (Int.toNat x0)))
    else none)))
    else none)
   else
    some (y3.1, (-1000002)))))
  else
   some (y2.1, (-1000001)))))))) := by
  exact (srun_unr _ [] 34 _).trans rfl
/-! GridQuarrels.quarrel(II)I: method 119; stops [] -/
theorem b_X_quarrel (Ln d : Nat) (σ : mmSt) (x0 x1 : Int) : srun (lyT Ln) ((d + 1), 119, 0, [mR 4, mI x0, mI x1], [], σ) =
 (Option.bind (srun (lyT Ln) (d, 18, 0, [mR 48, mI x0], [], σ)) (fun y1 =>
 (bif decide (¬ y1.2 = 0) then
  (bif decide (x1 = 0) then
  (bif minb x0 5 then
   some (y1.1, (y1.1 54 (Int.toNat x0)))
   else none)
  else
  (bif decide (x1 = 1) then
  (bif minb x0 5 then
   some (y1.1, (y1.1 55 (Int.toNat x0)))
   else none)
  else
  (bif decide (x1 = 2) then
  (bif minb x0 5 then
   some (y1.1, (y1.1 56 (Int.toNat x0)))
   else none)
  else
  (bif decide (x1 = 3) then
  (Option.bind (srun (lyT Ln) (d, 42, 0, [mR 48, mI x0, mJ, mJ], [], y1.1)) (fun y3 =>
   some (y3.1, y3.2)))
  else
  (bif decide (x1 = 4) then
  (Option.bind (srun (lyT Ln) (d, 31, 0, [mR 48, mI x0, mJ, mJ, mJ], [], y1.1)) (fun y2 =>
   some (y2.1, y2.2)))
  else
  some (y1.1, (-1000001)))))))
 else
  some (y1.1, (-1000001))))) := by
  exact (srun_unr _ [] 13 _).trans rfl
/-! GridQuarrels.road(II)I: method 120; stops [] -/
theorem b_X_road (Ln d : Nat) (σ : mmSt) (x0 x1 : Int) : srun (lyT Ln) ((d + 1), 120, 0, [mR 4, mI x0, mI x1], [], σ) =
 (Option.bind (srun (lyT Ln) (d, 17, 0, [mR 48, mI x0], [], σ)) (fun y1 =>
 (bif decide (¬ y1.2 = 0) then
  (bif decide (x1 = 0) then
  (bif minb x0 7 then
   some (y1.1, (y1.1 50 (Int.toNat x0)))
   else none)
  else
  (bif decide (x1 = 1) then
  (bif minb x0 7 then
   some (y1.1, (y1.1 51 (Int.toNat x0)))
   else none)
  else
  (bif decide (x1 = 2) then
  (bif minb x0 7 then
   some (y1.1, (y1.1 52 (Int.toNat x0)))
   else none)
  else
  some (y1.1, (-1000001)))))
 else
  some (y1.1, (-1000001))))) := by
  exact (srun_unr _ [] 13 _).trans rfl
/-! GridQuarrels.parish(II)I: method 121; stops [] -/
theorem b_X_parish (Ln d : Nat) (σ : mmSt) (x0 x1 : Int) : srun (lyT Ln) ((d + 1), 121, 0, [mR 4, mI x0, mI x1], [], σ) =
 (Option.bind (srun (lyT Ln) (d, 16, 0, [mR 48, mI x0], [], σ)) (fun y1 =>
 (bif decide (¬ y1.2 = 0) then
  (bif decide (x1 = 0) then
  (bif minb x0 7 then
   some (y1.1, (y1.1 49 (Int.toNat x0)))
   else none)
  else
  (bif decide (x1 = 1) then
  (Option.bind (srun (lyT Ln) (d, 39, 0, [mR 48, mI x0, mJ, mJ], [], y1.1)) (fun y3 =>
   some (y3.1, y3.2)))
  else
  (bif decide (x1 = 2) then
  (Option.bind (srun (lyT Ln) (d, 41, 0, [mR 48, mI x0, mJ, mJ], [], y1.1)) (fun y2 =>
   some (y2.1, y2.2)))
  else
  some (y1.1, (-1000001)))))
 else
  some (y1.1, (-1000001))))) := by
  exact (srun_unr _ [] 13 _).trans rfl
/-! GridQuarrels.ahead(III)I: method 122; stops [] -/
theorem b_X_ahead (Ln d : Nat) (σ : mmSt) (x0 x1 x2 : Int) : srun (lyT Ln) ((d + 1), 122, 0, [mR 4, mI x0, mI x1, mI x2], [], σ) =
 (Option.bind (srun (lyT Ln) (d, 18, 0, [mR 48, mI x0], [], σ)) (fun y1 =>
 (bif decide (y1.2 = 0) then
  some (y1.1, (-1000001))
 else
  (Option.bind (srun (lyT Ln) (d, 150, 0, [mI x1, mI 0, mI 60], [], y1.1)) (fun y2 =>
  (bif decide (y2.2 = 0) then
   some (y2.1, (-1000001))
  else
   (Option.bind (srun (lyT Ln) (d, 150, 0, [mI x2, mI 0, mI 1], [], y2.1)) (fun y3 =>
   (bif decide (¬ y3.2 = 0) then
    (Option.bind (srun (lyT Ln) (d, 80, 0, [mR 47, mI x1], [], y3.1)) (fun y4 =>
    (bif decide (¬ x2 = 0) then
     (bif minb x0 5 then
     some (y4.1, (y4.1 65 (Int.toNat x0)))
     else none)
    else
     (bif minb x0 5 then
     some (y4.1, (y4.1 64 (Int.toNat x0)))
     else none))))
   else
    some (y3.1, (-1000001))))))))))) := by
  exact (srun_unr _ [] 29 _).trans rfl
/-! GridQuarrels.hayAhead(II)I: method 123; stops [] -/
theorem b_X_hayAhead (Ln d : Nat) (σ : mmSt) (x0 x1 : Int) : srun (lyT Ln) ((d + 1), 123, 0, [mR 4, mI x0, mI x1], [], σ) =
 (Option.bind (srun (lyT Ln) (d, 16, 0, [mR 48, mI x0], [], σ)) (fun y1 =>
 (bif decide (y1.2 = 0) then
  some (y1.1, (-1000001))
 else
  (Option.bind (srun (lyT Ln) (d, 150, 0, [mI x1, mI 0, mI 60], [], y1.1)) (fun y2 =>
  (bif decide (¬ y2.2 = 0) then
   (Option.bind (srun (lyT Ln) (d, 80, 0, [mR 47, mI x1], [], y2.1)) (fun y3 =>
   (bif minb x0 7 then
   some (y3.1, (y3.1 59 (Int.toNat x0)))
   else none)))
  else
   some (y2.1, (-1000001)))))))) := by
  exact (srun_unr _ [] 21 _).trans rfl
/-! GridQuarrels.dies(I)I: method 124; stops [] -/
theorem b_X_dies (Ln d : Nat) (σ : mmSt) (x0 : Int) : srun (lyT Ln) ((d + 1), 124, 0, [mR 4, mI x0], [], σ) =
 (Option.bind (srun (lyT Ln) (d, 18, 0, [mR 48, mI x0], [], σ)) (fun y1 =>
 (bif decide (¬ y1.2 = 0) then
  (Option.bind (srun (lyT Ln) (d, 78, 0, [mR 47], [], y1.1)) (fun y2 =>
  (Option.bind (srun (lyT Ln) (d, 81, 0, [mR 47, mI x0, mJ], [], y2.1)) (fun y3 =>
  some (y3.1, y3.2)))))
 else
  some (y1.1, (-1000001))))) := by
  exact (srun_unr _ [] 13 _).trans rfl
/-! GridQuarrels.comes(II)I: method 125; stops [] -/
theorem b_X_comes (Ln d : Nat) (σ : mmSt) (x0 x1 : Int) : srun (lyT Ln) ((d + 1), 125, 0, [mR 4, mI x0, mI x1], [], σ) =
 (Option.bind (srun (lyT Ln) (d, 18, 0, [mR 48, mI x0], [], σ)) (fun y1 =>
 (bif decide (y1.2 = 0) then
  some (y1.1, (-1000001))
 else
  (Option.bind (srun (lyT Ln) (d, 16, 0, [mR 48, mI x1], [], y1.1)) (fun y2 =>
  (bif decide (¬ y2.2 = 0) then
   (Option.bind (srun (lyT Ln) (d, 82, 0, [mR 47, mI x0, mI x1, mJ], [], y2.1)) (fun y3 =>
   some (y3.1, y3.2)))
  else
   some (y2.1, (-1000001)))))))) := by
  exact (srun_unr _ [] 16 _).trans rfl
/-! GridQuarrels.meet(II)I: method 126; stops [] -/
theorem b_X_meet (Ln d : Nat) (σ : mmSt) (x0 x1 : Int) : srun (lyT Ln) ((d + 1), 126, 0, [mR 4, mI x0, mI x1], [], σ) =
 (Option.bind (srun (lyT Ln) (d, 18, 0, [mR 48, mI x0], [], σ)) (fun y1 =>
 (bif decide (y1.2 = 0) then
  some (y1.1, (-1000001))
 else
  (Option.bind (srun (lyT Ln) (d, 18, 0, [mR 48, mI x1], [], y1.1)) (fun y2 =>
  (bif decide (y2.2 = 0) then
   some (y2.1, (-1000001))
  else
   (bif decide (¬ x0 = x1) then
    (Option.bind (srun (lyT Ln) (d, 83, 0, [mR 47, mI x0, mI x1, mJ], [], y2.1)) (fun y3 =>
    some (y3.1, y3.2)))
   else
    some (y2.1, (-1000001))))))))) := by
  exact (srun_unr _ [] 19 _).trans rfl
/-! GridQuarrels.grazed(I)I: method 127; stops [] -/
theorem b_X_grazed (Ln d : Nat) (σ : mmSt) (x0 : Int) : srun (lyT Ln) ((d + 1), 127, 0, [mR 4, mI x0], [], σ) =
 (Option.bind (srun (lyT Ln) (d, 15, 0, [mR 48], [], σ)) (fun y1 =>
 (bif decide (¬ y1.2 = 0) then
  (Option.bind (srun (lyT Ln) (d, 150, 0, [mI x0, mI 1, mI 60], [], y1.1)) (fun y2 =>
  (bif decide (¬ y2.2 = 0) then
   (Option.bind (srun (lyT Ln) (d, 80, 0, [mR 47, mI x0], [], y2.1)) (fun y3 =>
   some (y3.1, (y3.1 58 12))))
  else
   some (y2.1, (-1000001)))))
 else
  some (y1.1, (-1000002))))) := by
  exact (srun_unr _ [] 18 _).trans rfl
/-! GridQuarrels.shuts(III)I: method 128; stops [] -/
theorem b_X_shuts (Ln d : Nat) (σ : mmSt) (x0 x1 x2 : Int) : srun (lyT Ln) ((d + 1), 128, 0, [mR 4, mI x0, mI x1, mI x2], [], σ) =
 (Option.bind (srun (lyT Ln) (d, 16, 0, [mR 48, mI x0], [], σ)) (fun y1 =>
 (bif decide (y1.2 = 0) then
  some (y1.1, (-1000001))
 else
  (Option.bind (srun (lyT Ln) (d, 150, 0, [mI x1, mI 1, mI 30], [], y1.1)) (fun y2 =>
  (bif decide (y2.2 = 0) then
   some (y2.1, (-1000001))
  else
   (Option.bind (srun (lyT Ln) (d, 150, 0, [mI x2, mI 0, mI 1], [], y2.1)) (fun y3 =>
   (bif decide (¬ y3.2 = 0) then
    (Option.bind (srun (lyT Ln) (d, 84, 0, [mR 47, mI x0, mI x1, mJ, mJ, mJ], [], y3.1)) (fun y4 =>
    (Option.bind (srun (lyT Ln) (d, 152, 0, [mI y4.2, mI x2], [], y4.1)) (fun y5 =>
    some (y5.1, y5.2)))))
   else
    some (y3.1, (-1000001))))))))))) := by
  exact (srun_unr _ [] 23 _).trans rfl
/-! GridQuarrels.lures(IIII)I: method 129; stops [] -/
theorem b_X_lures (Ln d : Nat) (σ : mmSt) (x0 x1 x2 x3 : Int) : srun (lyT Ln) ((d + 1), 129, 0, [mR 4, mI x0, mI x1, mI x2, mI x3], [], σ) =
 (Option.bind (srun (lyT Ln) (d, 18, 0, [mR 48, mI x0], [], σ)) (fun y1 =>
 (bif decide (y1.2 = 0) then
  some (y1.1, (-1000001))
 else
  (Option.bind (srun (lyT Ln) (d, 16, 0, [mR 48, mI x1], [], y1.1)) (fun y2 =>
  (bif decide (¬ y2.2 = 0) then
   (Option.bind (srun (lyT Ln) (d, 150, 0, [mI x2, mI 1, mI 30], [], y2.1)) (fun y3 =>
   (bif decide (y3.2 = 0) then
    some (y3.1, (-1000001))
   else
    (Option.bind (srun (lyT Ln) (d, 150, 0, [mI x3, mI 0, mI 1], [], y3.1)) (fun y4 =>
    (bif decide (¬ y4.2 = 0) then
     (Option.bind (srun (lyT Ln) (d, 88, 0, [mR 47, mI x0, mI x1, mI x2, mJ, mJ, mJ], [], y4.1)) (fun y5 =>
     (Option.bind (srun (lyT Ln) (d, 152, 0, [mI y5.2, mI x3], [], y5.1)) (fun y6 =>
     some (y6.1, y6.2)))))
    else
     some (y4.1, (-1000001))))))))
  else
   some (y2.1, (-1000001)))))))) := by
  exact (srun_unr _ [] 29 _).trans rfl
/-! GridQuarrels.starve(II)I: method 130; stops [] -/
theorem b_X_starve (Ln d : Nat) (σ : mmSt) (x0 x1 : Int) : srun (lyT Ln) ((d + 1), 130, 0, [mR 4, mI x0, mI x1, mJ], [], σ) =
 (Option.bind (srun (lyT Ln) (d, 18, 0, [mR 48, mI x0], [], σ)) (fun y1 =>
 (bif decide (y1.2 = 0) then
  some (y1.1, (-1000001))
 else
  (Option.bind (srun (lyT Ln) (d, 150, 0, [mI x1, mI 0, mI 1], [], y1.1)) (fun y2 =>
  (bif decide (¬ y2.2 = 0) then
   (Option.bind (srun (lyT Ln) (d, 90, 0, [mR 47, mI x0, mJ, mJ, mJ, mJ], [], y2.1)) (fun y3 =>
   (bif decide (x1 = 0) then
    some (y3.1, y3.2)
   else
    (bif decide (¬ y3.2 = (-1000000)) then
     (Option.bind (srun (lyT Ln) (d, 91, 0, [mR 47, mI x0, mI y3.2], [], y3.1)) (fun y4 =>
     some (y4.1, y4.2)))
    else
     some (y3.1, y3.2)))))
  else
   some (y2.1, (-1000001)))))))) := by
  exact (srun_unr _ [] 26 _).trans rfl
/-! GridQuarrels.way(II)I: method 131; stops [] -/
theorem b_X_way (Ln d : Nat) (σ : mmSt) (x0 x1 : Int) : srun (lyT Ln) ((d + 1), 131, 0, [mR 4, mI x0, mI x1], [], σ) =
 (Option.bind (srun (lyT Ln) (d, 18, 0, [mR 48, mI x0], [], σ)) (fun y1 =>
 (bif decide (y1.2 = 0) then
  some (y1.1, (-1000001))
 else
  (Option.bind (srun (lyT Ln) (d, 16, 0, [mR 48, mI x1], [], y1.1)) (fun y2 =>
  (bif decide (¬ y2.2 = 0) then
   (Option.bind (srun (lyT Ln) (d, 19, 0, [mR 48, mI x0], [], y2.1)) (fun y3 =>
   (bif decide (y3.2 = 0) then
    (Option.bind (srun (lyT Ln) (d, 45, 0, [mR 48, mI x0, mI x1, mJ, mJ], [], y3.1)) (fun y4 =>
    some (y4.1, y4.2)))
   else
    some (y3.1, (-1000002)))))
  else
   some (y2.1, (-1000001)))))))) := by
  exact (srun_unr _ [] 21 _).trans rfl
/-! GridQuarrels.reach(I)I: method 132; stops [] -/
theorem b_X_reach (Ln d : Nat) (σ : mmSt) (x0 : Int) : srun (lyT Ln) ((d + 1), 132, 0, [mR 4, mI x0], [], σ) =
 (Option.bind (srun (lyT Ln) (d, 18, 0, [mR 48, mI x0], [], σ)) (fun y1 =>
 (bif decide (¬ y1.2 = 0) then
  (Option.bind (srun (lyT Ln) (d, 19, 0, [mR 48, mI x0], [], y1.1)) (fun y2 =>
  (bif decide (y2.2 = 0) then
   (Option.bind (srun (lyT Ln) (d, 46, 0, [mR 48, mI x0, mJ, mJ], [], y2.1)) (fun y3 =>
   some (y3.1, y3.2)))
  else
   some (y2.1, (-1000002)))))
 else
  some (y1.1, (-1000001))))) := by
  exact (srun_unr _ [] 15 _).trans rfl
/-! GridQuarrels.home()I: method 133; stops [] -/
theorem b_X_home (Ln d : Nat) (σ : mmSt) : srun (lyT Ln) ((d + 1), 133, 0, [mR 4], [], σ) =
 (Option.bind (srun (lyT Ln) (d, 15, 0, [mR 48], [], σ)) (fun y1 =>
 (bif decide (¬ y1.2 = 0) then
  (Option.bind (srun (lyT Ln) (d, 40, 0, [mR 48, mJ, mJ], [], y1.1)) (fun y2 =>
  some (y2.1, y2.2)))
 else
  some (y1.1, (-1000002))))) := by
  exact (srun_unr _ [] 8 _).trans rfl
/-! GridQuarrels.fed(II)I: method 134; stops [] -/
theorem b_X_fed (Ln d : Nat) (σ : mmSt) (x0 x1 : Int) : srun (lyT Ln) ((d + 1), 134, 0, [mR 4, mI x0, mI x1, mJ], [], σ) =
 (Option.bind (srun (lyT Ln) (d, 15, 0, [mR 48], [], σ)) (fun y1 =>
 (bif decide (¬ y1.2 = 0) then
  (Option.bind (srun (lyT Ln) (d, 150, 0, [mI x0, mI 1, mI 60], [], y1.1)) (fun y2 =>
  (bif decide (y2.2 = 0) then
   some (y2.1, (-1000001))
  else
   (Option.bind (srun (lyT Ln) (d, 150, 0, [mI x1, mI 0, mI 1], [], y2.1)) (fun y3 =>
   (bif decide (¬ y3.2 = 0) then
    (Option.bind (srun (lyT Ln) (d, 80, 0, [mR 47, mI x0], [], y3.1)) (fun y4 =>
    (Option.bind (srun (lyT Ln) (d, 43, 0, [mR 58, mJ, mJ], [], y4.1)) (fun y5 =>
    (bif decide (¬ x1 = 0) then
     (bif minb y5.2 5 then
     some (y5.1, (y5.1 67 (Int.toNat y5.2)))
     else none)
    else
     some (y5.1, y5.2))))))
   else
    some (y3.1, (-1000001))))))))
 else
  some (y1.1, (-1000002))))) := by
  exact (srun_unr _ [] 32 _).trans rfl
/-! GridQuarrels.who(IIIII)I: method 135; stops [] -/
set_option maxRecDepth 100000 in
theorem b_X_who (Ln d : Nat) (σ : mmSt) (x0 x1 x2 x3 x4 : Int) : srun (lyT Ln) ((d + 1), 135, 0, [mR 4, mI x0, mI x1, mI x2, mI x3, mI x4, mJ], [], σ) =
 (Option.bind (srun (lyT Ln) (d, 18, 0, [mR 48, mI x0], [], σ)) (fun y1 =>
 (bif decide (y1.2 = 0) then
  some (y1.1, (-1000001))
 else
  (Option.bind (srun (lyT Ln) (d, 150, 0, [mI x1, mI 0, mI 2], [], y1.1)) (fun y2 =>
  (bif decide (¬ y2.2 = 0) then
   (Option.bind (srun (lyT Ln) (d, 65, 0, [mR 5, mI x2], [], y2.1)) (fun y3 =>
   (bif decide (y3.2 = 0) then
    some (y3.1, (-1000001))
   else
    (Option.bind (srun (lyT Ln) (d, 150, 0, [mI x4, mI 1, mI 12], [], y3.1)) (fun y4 =>
    (bif decide (¬ y4.2 = 0) then
     (Option.bind (srun (lyT Ln) (d, 19, 0, [mR 48, mI x0], [], y4.1)) (fun y5 =>
     (bif decide (y5.2 = 0) then
      (Option.bind (srun (lyT Ln) (d, 68, 0, [mR 5, mI x2, mI x3, mI x4], [], y5.1)) (fun y6 =>
      (bif decide (y6.2 = 0) then
       (Option.bind (srun (lyT Ln) (d, 76, 0, [mR 5, mI x2, mI x3, mI x4, mR 68, mJ], [], y6.1)) (fun y7 =>
       (bif decide (x1 = 0) then
       (Option.bind (srun (lyT Ln) (d, 93, 0, [mR 47, mI x0, mI x4, mJ, mJ], [], y7.1)) (fun y12 =>
        (Option.bind (srun (lyT Ln) (d, 149, 0, [mR 4, mI y12.2], [], y12.1)) (fun y13 =>
        some (y13.1, y13.2)))))
       else
       (bif decide (x1 = 1) then
       (Option.bind (srun (lyT Ln) (d, 94, 0, [mR 47, mI x0, mI x4, mJ, mJ], [], y7.1)) (fun y10 =>
        (Option.bind (srun (lyT Ln) (d, 149, 0, [mR 4, mI y10.2], [], y10.1)) (fun y11 =>
        some (y11.1, y11.2)))))
       else
       (Option.bind (srun (lyT Ln) (d, 95, 0, [mR 47, mI x0, mI x4, mJ, mJ], [], y7.1)) (fun y8 =>
       (Option.bind (srun (lyT Ln) (d, 149, 0, [mR 4, mI y8.2], [], y8.1)) (fun y9 =>
       some (y9.1, y9.2)))))))))
      else
       (Option.bind (srun (lyT Ln) (d, 148, 0, [mR 4, mI y6.2], [], y6.1)) (fun y14 =>
       some (y14.1, y14.2))))))
     else
      some (y5.1, (-1000002)))))
    else
     some (y4.1, (-1000001))))))))
  else
   some (y2.1, (-1000001)))))))) := by
  exact (srun_unr _ [] 53 _).trans rfl
/-! GridQuarrels.grids(IIIII)I: method 136; stops [] -/
set_option maxRecDepth 100000 in
theorem b_X_grids (Ln d : Nat) (σ : mmSt) (x0 x1 x2 x3 x4 : Int) : srun (lyT Ln) ((d + 1), 136, 0, [mR 4, mI x0, mI x1, mI x2, mI x3, mI x4, mJ], [], σ) =
 (Option.bind (srun (lyT Ln) (d, 17, 0, [mR 48, mI x0], [], σ)) (fun y1 =>
 (bif decide (y1.2 = 0) then
  some (y1.1, (-1000001))
 else
  (Option.bind (srun (lyT Ln) (d, 18, 0, [mR 48, mI x1], [], y1.1)) (fun y2 =>
  (bif decide (¬ y2.2 = 0) then
   (Option.bind (srun (lyT Ln) (d, 65, 0, [mR 5, mI x2], [], y2.1)) (fun y3 =>
   (bif decide (y3.2 = 0) then
    some (y3.1, (-1000001))
   else
    (Option.bind (srun (lyT Ln) (d, 150, 0, [mI x4, mI 1, mI 12], [], y3.1)) (fun y4 =>
    (bif decide (¬ y4.2 = 0) then
     (Option.bind (srun (lyT Ln) (d, 68, 0, [mR 5, mI x2, mI x3, mI x4], [], y4.1)) (fun y5 =>
     (bif decide (y5.2 = 0) then
      (Option.bind (srun (lyT Ln) (d, 76, 0, [mR 5, mI x2, mI x3, mI x4, mR 68, mJ], [], y5.1)) (fun y6 =>
      (Option.bind (srun (lyT Ln) (d, 96, 0, [mR 47, mI x0, mI x1, mI x4, mJ, mJ], [], y6.1)) (fun y7 =>
      (Option.bind (srun (lyT Ln) (d, 149, 0, [mR 4, mI y7.2], [], y7.1)) (fun y8 =>
      some (y8.1, y8.2)))))))
     else
      (Option.bind (srun (lyT Ln) (d, 148, 0, [mR 4, mI y5.2], [], y5.1)) (fun y9 =>
      some (y9.1, y9.2))))))
    else
     some (y4.1, (-1000001))))))))
  else
   some (y2.1, (-1000001)))))))) := by
  exact (srun_unr _ [] 47 _).trans rfl
/-! GridQuarrels.which(III)I: method 137; stops [] -/
theorem b_X_which (Ln d : Nat) (σ : mmSt) (x0 x1 x2 : Int) : srun (lyT Ln) ((d + 1), 137, 0, [mR 4, mI x0, mI x1, mI x2, mJ], [], σ) =
 (Option.bind (srun (lyT Ln) (d, 15, 0, [mR 48], [], σ)) (fun y1 =>
 (bif decide (¬ y1.2 = 0) then
  (Option.bind (srun (lyT Ln) (d, 65, 0, [mR 5, mI x0], [], y1.1)) (fun y2 =>
  (bif decide (y2.2 = 0) then
   some (y2.1, (-1000001))
  else
   (Option.bind (srun (lyT Ln) (d, 150, 0, [mI x2, mI 1, mI 12], [], y2.1)) (fun y3 =>
   (bif decide (¬ y3.2 = 0) then
    (Option.bind (srun (lyT Ln) (d, 68, 0, [mR 5, mI x0, mI x1, mI x2], [], y3.1)) (fun y4 =>
    (bif decide (y4.2 = 0) then
     (Option.bind (srun (lyT Ln) (d, 76, 0, [mR 5, mI x0, mI x1, mI x2, mR 68, mJ], [], y4.1)) (fun y5 =>
     (Option.bind (srun (lyT Ln) (d, 97, 0, [mR 47, mI x2, mJ, mJ], [], y5.1)) (fun y6 =>
     (Option.bind (srun (lyT Ln) (d, 149, 0, [mR 4, mI y6.2], [], y6.1)) (fun y7 =>
     some (y7.1, y7.2)))))))
    else
     (Option.bind (srun (lyT Ln) (d, 148, 0, [mR 4, mI y4.2], [], y4.1)) (fun y8 =>
     some (y8.1, y8.2))))))
   else
    some (y3.1, (-1000001))))))))
 else
  some (y1.1, (-1000002))))) := by
  exact (srun_unr _ [] 39 _).trans rfl
/-! GridQuarrels.snow(IIIII)J: method 138; stops [] -/
set_option maxRecDepth 100000 in
theorem b_X_snow (Ln d : Nat) (σ : mmSt) (x0 x1 x2 x3 x4 : Int) : srun (lyT Ln) ((d + 1), 138, 0, [mR 4, mI x0, mI x1, mI x2, mI x3, mI x4, mJ, mJ, mJ, mJ, mJ, mJ], [], σ) =
 (Option.bind (srun (lyT Ln) (d, 18, 0, [mR 48, mI x0], [], σ)) (fun y1 =>
 (bif decide (y1.2 = 0) then
  some (y1.1, (-1000001))
 else
  (Option.bind (srun (lyT Ln) (d, 16, 0, [mR 48, mI x1], [], y1.1)) (fun y2 =>
  (bif decide (¬ y2.2 = 0) then
   (Option.bind (srun (lyT Ln) (d, 150, 0, [mI x2, mI 0, mI 30], [], y2.1)) (fun y3 =>
   (bif decide (y3.2 = 0) then
    some (y3.1, (-1000001))
   else
    (Option.bind (srun (lyT Ln) (d, 150, 0, [mI x3, mI 0, mI 10], [], y3.1)) (fun y4 =>
    (bif decide (y4.2 = 0) then
     some (y4.1, (-1000001))
    else
     (Option.bind (srun (lyT Ln) (d, 150, 0, [mI x4, mI 0, mI 1], [], y4.1)) (fun y5 =>
     (bif decide (¬ y5.2 = 0) then
      (Option.bind (srun (lyT Ln) (d, 100, 0, [mR 47, mI x0, mI x1, mI x2, mI x3, mJ, mJ, mJ, mJ, mJ, mJ], [], y5.1)) (fun y6 =>
      (Option.bind (srun (lyT Ln) (d, 99, 0, [mR 47], [], y6.1)) (fun y7 =>
      (Option.bind (srun (lyT Ln) (d, 154, 0, [mL y6.2, mJ, mL y7.2, mJ, mJ, mJ, mJ, mJ, mJ, mJ, mJ], [], y7.1)) (fun y8 =>
      (bif decide (¬ (mlcmp y8.2 0) = 0) then
       (bif decide (¬ x4 = 0) then
        (bif decide (¬ y8.2 = 0) then
        some (y8.1, (mwrapL (Int.tdiv y7.2 y8.2)))
        else none)
       else
        (bif decide (¬ y8.2 = 0) then
        some (y8.1, (mwrapL (Int.tdiv y6.2 y8.2)))
        else none))
      else
       some (y8.1, (-1000001)))))))))
     else
      some (y5.1, (-1000001)))))))))))
  else
   some (y2.1, (-1000001)))))))) := by
  exact (srun_unr _ [] 52 _).trans rfl
/-! GridQuarrels.drawn(III)I: method 139; stops [] -/
theorem b_X_drawn (Ln d : Nat) (σ : mmSt) (x0 x1 x2 : Int) : srun (lyT Ln) ((d + 1), 139, 0, [mR 4, mI x0, mI x1, mI x2], [], σ) =
 (Option.bind (srun (lyT Ln) (d, 15, 0, [mR 48], [], σ)) (fun y1 =>
 (bif decide (¬ y1.2 = 0) then
  (Option.bind (srun (lyT Ln) (d, 150, 0, [mI x0, mI 0, mI 60], [], y1.1)) (fun y2 =>
  (bif decide (y2.2 = 0) then
   some (y2.1, (-1000001))
  else
   (Option.bind (srun (lyT Ln) (d, 150, 0, [mI x1, mI 1, mI 999999], [], y2.1)) (fun y3 =>
   (bif decide (y3.2 = 0) then
    some (y3.1, (-1000001))
   else
    (Option.bind (srun (lyT Ln) (d, 150, 0, [mI x2, mI 0, mI 1], [], y3.1)) (fun y4 =>
    (bif decide (¬ y4.2 = 0) then
     (Option.bind (srun (lyT Ln) (d, 104, 0, [mR 47, mI x0, mI x1, mJ, mJ, mJ], [], y4.1)) (fun y5 =>
     (bif decide (¬ x2 = 0) then
      some (y5.1, (y5.1 58 13))
     else
      (Option.bind (srun (lyT Ln) (d, 37, 0, [mR 58, mJ, mJ], [], y5.1)) (fun y6 =>
      some (y6.1, y6.2))))))
    else
     some (y4.1, (-1000001)))))))))))
 else
  some (y1.1, (-1000002))))) := by
  exact (srun_unr _ [] 32 _).trans rfl
/-! GridQuarrels.image(I)I: method 140; stops [16, 17] -/
theorem b_X_image (Ln d : Nat) (σ : mmSt) (x0 : Int) : srun (lyT Ln) ((d + 1), 140, 0, [mR 4, mI x0], [], σ) =
 (Option.bind (srun (lyT Ln) (d, 150, 0, [mI x0, mI 0, mI 1], [], σ)) (fun y1 =>
 (bif decide (¬ y1.2 = 0) then
  (Option.bind (srun (lyT Ln) (d, 15, 0, [mR 48], [], y1.1)) (fun y2 =>
  (bif decide (¬ y2.2 = 0) then
   srun (lyT Ln) ((d + 1), 140, 16, [mR 4, mI x0], [mI x0, mR 71], y2.1)
  else
   some (y2.1, (-1000002)))))
 else
  some (y1.1, (-1000001))))) := by
  exact (srun_unr _ [16, 17] 12 _).trans rfl
theorem b_X_image_17 (Ln d : Nat) (σ : mmSt) (z1 : Int) (b : Nat) (hb : b = 72 ∨ b = 82) : srun (lyT Ln) ((d + 1), 140, 17, [mR 4, mI z1], [mR b], σ) =
 (Option.bind (srun (lyT Ln) (d, 24, 0, [mR b, mR 48, mJ], [], σ)) (fun y1 =>
 some (y1.1, 1))) := by
  rcases hb with rfl | rfl <;> exact (srun_unr _ [16, 17] 5 _).trans rfl
/-! GridQuarrels.restore(I)I: method 141; stops [10, 11, 20, 21] -/
theorem b_X_restore (Ln d : Nat) (σ : mmSt) (x0 : Int) : srun (lyT Ln) ((d + 1), 141, 0, [mR 4, mI x0], [], σ) =
 (Option.bind (srun (lyT Ln) (d, 150, 0, [mI x0, mI 0, mI 1], [], σ)) (fun y1 =>
 (bif decide (¬ y1.2 = 0) then
  srun (lyT Ln) ((d + 1), 141, 10, [mR 4, mI x0], [mI x0, mR 71], y1.1)
 else
  some (y1.1, (-1000001))))) := by
  exact (srun_unr _ [10, 11, 20, 21] 8 _).trans rfl
theorem b_X_restore_11 (Ln d : Nat) (σ : mmSt) (z1 : Int) (b : Nat) (hb : b = 72 ∨ b = 82) : srun (lyT Ln) ((d + 1), 141, 11, [mR 4, mI z1], [mR b], σ) =
 (Option.bind (srun (lyT Ln) (d, 15, 0, [mR b], [], σ)) (fun y1 =>
 (bif decide (¬ y1.2 = 0) then
  srun (lyT Ln) ((d + 1), 141, 20, [mR 4, mI z1], [mI z1, mR 71, mR 48], y1.1)
 else
  some (y1.1, (-1000002))))) := by
  rcases hb with rfl | rfl <;> exact (srun_unr _ [10, 11, 20, 21] 7 _).trans rfl
theorem b_X_restore_21 (Ln d : Nat) (σ : mmSt) (z1 : Int) (b : Nat) (hb : b = 72 ∨ b = 82) : srun (lyT Ln) ((d + 1), 141, 21, [mR 4, mI z1], [mR b, mR 48], σ) =
 (Option.bind (srun (lyT Ln) (d, 24, 0, [mR 48, mR b, mJ], [], σ)) (fun y1 =>
 (Option.bind (srun (lyT Ln) (d, 4, 0, [mR 21], [], y1.1)) (fun y2 =>
 some (y2.1, 1))))) := by
  rcases hb with rfl | rfl <;> exact (srun_unr _ [10, 11, 20, 21] 6 _).trans rfl
/-! GridQuarrels.kind(I)I: method 142; stops [] -/
theorem b_X_kind (Ln d : Nat) (σ : mmSt) (x0 : Int) : srun (lyT Ln) ((d + 1), 142, 0, [mR 4, mI x0], [], σ) =
 (Option.bind (srun (lyT Ln) (d, 18, 0, [mR 48, mI x0], [], σ)) (fun y1 =>
 (bif decide (y1.2 = 0) then
  some (y1.1, (-1000001))
 else
  (bif minb x0 5 then
  some (y1.1, (y1.1 53 (Int.toNat x0)))
  else none)))) := by
  exact (srun_unr _ [] 12 _).trans rfl
/-! GridQuarrels.as(II)I: method 143; stops [] -/
theorem b_X_as (Ln d : Nat) (σ : mmSt) (x0 x1 : Int) : srun (lyT Ln) ((d + 1), 143, 0, [mR 4, mI x0, mI x1], [], σ) =
 (Option.bind (srun (lyT Ln) (d, 18, 0, [mR 48, mI x0], [], σ)) (fun y1 =>
 (bif decide (y1.2 = 0) then
  some (y1.1, (-1000001))
 else
  (Option.bind (srun (lyT Ln) (d, 150, 0, [mI x1, mI 0, mI 5], [], y1.1)) (fun y2 =>
  (bif decide (¬ y2.2 = 0) then
   (bif minb x0 5 then
   (Option.bind (srun (lyT Ln) (d, 153, 0, [mI (y2.1 53 (Int.toNat x0)), mI x1, mJ, mJ], [], y2.1)) (fun y3 =>
   (bif decide (y3.2 = 0) then
    (Option.bind (srun (lyT Ln) (d, 148, 0, [mR 4, mI 3], [], y3.1)) (fun y4 =>
    some (y4.1, y4.2)))
   else
    (Option.bind (srun (lyT Ln) (d, 149, 0, [mR 4, mI x0], [], y3.1)) (fun y5 =>
    some (y5.1, y5.2))))))
   else none)
  else
   some (y2.1, (-1000001)))))))) := by
  exact (srun_unr _ [] 23 _).trans rfl
/-! GridQuarrels.ask(II)I: method 144; stops [] -/
theorem b_X_ask (Ln d : Nat) (σ : mmSt) (x0 x1 : Int) : srun (lyT Ln) ((d + 1), 144, 0, [mR 4, mI x0, mI x1], [], σ) =
 (Option.bind (srun (lyT Ln) (d, 18, 0, [mR 48, mI x0], [], σ)) (fun y1 =>
 (bif decide (y1.2 = 0) then
  some (y1.1, (-1000001))
 else
  (Option.bind (srun (lyT Ln) (d, 150, 0, [mI x1, mI 0, mI 1], [], y1.1)) (fun y2 =>
  (bif decide (¬ y2.2 = 0) then
   (Option.bind (srun (lyT Ln) (d, 8, 0, [mR 69, mR 48, mI x0, mI x1], [], y2.1)) (fun y3 =>
   some (y3.1, y3.2)))
  else
   some (y2.1, (-1000001)))))))) := by
  exact (srun_unr _ [] 18 _).trans rfl
/-! GridQuarrels.trace(I)I: method 145; stops [] -/
theorem b_X_trace (Ln d : Nat) (σ : mmSt) (x0 : Int) : srun (lyT Ln) ((d + 1), 145, 0, [mR 4, mI x0], [], σ) =
 (Option.bind (srun (lyT Ln) (d, 9, 0, [mR 69, mI x0], [], σ)) (fun y1 =>
 some (y1.1, y1.2))) := by
  exact (srun_unr _ [] 5 _).trans rfl
/-! GridQuarrels.count(I)I: method 146; stops [] -/
theorem b_X_count (Ln d : Nat) (σ : mmSt) (x0 : Int) : srun (lyT Ln) ((d + 1), 146, 0, [mR 4, mI x0], [], σ) =
 (bif decide (x0 = 0) then
 (Option.bind (srun (lyT Ln) (d, 67, 0, [mR 5, mJ, mJ], [], σ)) (fun y2 =>
  some (y2.1, y2.2)))
 else
 (bif decide (x0 = 1) then
 some (σ, (σ 48 0))
 else
 (bif decide (x0 = 2) then
 some (σ, (σ 48 1))
 else
 (bif decide (x0 = 3) then
 some (σ, (σ 48 2))
 else
 (bif decide (x0 = 4) then
 some (σ, (σ 48 3))
 else
 (bif decide (x0 = 5) then
 (Option.bind (srun (lyT Ln) (d, 36, 0, [mR 48, mJ, mJ], [], σ)) (fun y1 =>
  some (y1.1, y1.2)))
 else
 (bif decide (x0 = 6) then
 some (σ, (σ 21 0))
 else
 (bif decide (x0 = 7) then
 some (σ, (σ 9 1))
 else
 some (σ, (-1000001)))))))))) := by
  exact (srun_unr _ [] 6 _).trans rfl
/-! GridQuarrels.status()I: method 147; stops [] -/
theorem b_X_status (Ln d : Nat) (σ : mmSt) : srun (lyT Ln) ((d + 1), 147, 0, [mR 4], [], σ) =
 some (σ, (σ 4 7)) := by
  exact (srun_unr _ [] 3 _).trans rfl
/-! GridQuarrels.found(I)I: method 148; stops [] -/
theorem b_X_found (Ln d : Nat) (σ : mmSt) (x0 : Int) : srun (lyT Ln) ((d + 1), 148, 0, [mR 4, mI x0], [], σ) =
 some ((mup σ 4 7 x0), (mwrap ((-1000010) - x0))) := by
  exact (srun_unr _ [] 7 _).trans rfl
/-! GridQuarrels.fine(I)I: method 149; stops [] -/
theorem b_X_fine (Ln d : Nat) (σ : mmSt) (x0 : Int) : srun (lyT Ln) ((d + 1), 149, 0, [mR 4, mI x0], [], σ) =
 some ((mup σ 4 7 0), x0) := by
  exact (srun_unr _ [] 5 _).trans rfl
/-! GridQuarrels.within(III)Z: method 150; stops [] -/
theorem b_X_within (Ln d : Nat) (σ : mmSt) (x0 x1 x2 : Int) : srun (lyT Ln) ((d + 1), 150, 0, [mI x0, mI x1, mI x2], [], σ) =
 (bif decide (x0 < x1) then
  some (σ, 0)
 else
  (bif decide (x2 < x0) then
   some (σ, 0)
  else
   some (σ, 1))) := by
  exact (srun_unr _ [] 9 _).trans rfl
/-! GridQuarrels.has(II)Z: method 151; stops [] -/
theorem b_X_has (Ln d : Nat) (σ : mmSt) (x0 x1 : Int) : srun (lyT Ln) ((d + 1), 151, 0, [mI x0, mI x1], [], σ) =
 (bif decide (¬ (mand (mshr x0 x1) 1) = 1) then
  some (σ, 0)
 else
  some (σ, 1)) := by
  exact (srun_unr _ [] 10 _).trans rfl
/-! GridQuarrels.countOrBits(II)I: method 152; stops [] -/
theorem b_X_countOrBits (Ln d : Nat) (σ : mmSt) (x0 x1 : Int) : srun (lyT Ln) ((d + 1), 152, 0, [mI x0, mI x1], [], σ) =
 (bif decide (¬ x1 = 0) then
  some (σ, x0)
 else
  (bif decide (x0 = (-1000000)) then
   some (σ, x0)
  else
   (Option.bind (srun (lyT Ln) (d, 0, 0, [mI x0], [], σ)) (fun y1 =>
   some (y1.1, y1.2))))) := by
  exact (srun_unr _ [] 9 _).trans rfl
/-! GridQuarrels.isOneOf(II)Z: method 153; stops [4] -/
theorem b_X_isOneOf (Ln d : Nat) (σ : mmSt) (x0 x1 : Int) : srun (lyT Ln) ((d + 1), 153, 0, [mI x0, mI x1, mJ, mJ], [], σ) =
 srun (lyT Ln) ((d + 1), 153, 4, [mI x0, mI x1, mI x0, mI 0], [], σ) := by
  exact (srun_unr _ [4] 4 _).trans rfl
theorem b_X_isOneOf_4 (Ln d : Nat) (σ : mmSt) (z0 z1 z2 z3 : Int) : srun (lyT Ln) ((d + 1), 153, 4, [mI z0, mI z1, mI z2, mI z3], [], σ) =
 (bif decide (5 ≤ z3) then
  (bif decide (¬ z2 = z1) then
   some (σ, 0)
  else
   some (σ, 1))
 else
  (bif decide (z2 = z1) then
   (bif decide (¬ z2 = z1) then
    some (σ, 0)
   else
    some (σ, 1))
  else
   (bif minb z2 6 then
   srun (lyT Ln) ((d + 1), 153, 4, [mI z0, mI z1, mI (σ 1 (Int.toNat z2)), mI (mwrap (z3 + 1))], [], σ)
   else none))) := by
  exact (srun_unr _ [4] 12 _).trans rfl
/-! GridQuarrels.commonDivisor(JJ)J: method 154; stops [6] -/
theorem b_X_commonDivisor (Ln d : Nat) (σ : mmSt) (x0 x1 : Int) : srun (lyT Ln) ((d + 1), 154, 0, [mL x0, mJ, mL x1, mJ, mJ, mJ, mJ, mJ, mJ, mJ, mJ], [], σ) =
 srun (lyT Ln) ((d + 1), 154, 6, [mL x0, mJ, mL x1, mJ, mL x0, mJ, mL x1, mJ, mI 0, mJ, mJ], [], σ) := by
  exact (srun_unr _ [6] 6 _).trans rfl
theorem b_X_commonDivisor_6 (Ln d : Nat) (σ : mmSt) (z0 z2 z4 z6 z8 : Int) (v9 : mmV) : srun (lyT Ln) ((d + 1), 154, 6, [mL z0, mJ, mL z2, mJ, mL z4, mJ, mL z6, mJ, mI z8, v9, mJ], [], σ) =
 (bif decide (200 ≤ z8) then
  some (σ, z4)
 else
  (bif decide ((mlcmp z6 0) = 0) then
   some (σ, z4)
  else
   (bif decide (¬ z6 = 0) then
   srun (lyT Ln) ((d + 1), 154, 6, [mL z0, mJ, mL z2, mJ, mL z6, mJ, mL (Int.tmod z4 z6), mJ, mI (mwrap (z8 + 1)), mL (Int.tmod z4 z6), mJ], [], σ)
   else none))) := by
  exact (srun_unr _ [6] 17 _).trans rfl
