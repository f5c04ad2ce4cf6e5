/-! the law: method 242; stops [10, 22, 59, 96, 153, 170, 187, 194, 201, 208, 225, 252, 279, 306, 333, 360, 387, 414, 451, 478, 495, 522, 549, 566, 603, 650, 677, 704, 721, 728, 755, 812, 869, 906, 964, 1001, 1018, 1035, 1052, 1079, 1106, 1123, 1140, 1147] -/
theorem b_L_law_10 (Ln d : Nat) (σ : mmSt) (z3 : Int) : srun (lyT Ln) ((d + 1), 242, 10, [mR 0, mR 4, mR 92, mI z3], [], σ) =
 (bif decide ((mwrap ((Ln : Int) - 6)) < z3) then
  some (σ, 1)
 else
  (bif minb z3 Ln then
  (bif decide ((mand (σ 0 (Int.toNat z3)) 63) = 0) then
  srun (lyT Ln) ((d + 1), 242, 22, [mR 0, mR 4, mR 92, mI z3], [], σ)
  else
  (bif decide ((mand (σ 0 (Int.toNat z3)) 63) = 1) then
  srun (lyT Ln) ((d + 1), 242, 59, [mR 0, mR 4, mR 92, mI z3], [], σ)
  else
  (bif decide ((mand (σ 0 (Int.toNat z3)) 63) = 2) then
  srun (lyT Ln) ((d + 1), 242, 96, [mR 0, mR 4, mR 92, mI z3], [], σ)
  else
  (bif decide ((mand (σ 0 (Int.toNat z3)) 63) = 3) then
  srun (lyT Ln) ((d + 1), 242, 153, [mR 0, mR 4, mR 92, mI z3], [], σ)
  else
  (bif decide ((mand (σ 0 (Int.toNat z3)) 63) = 4) then
  srun (lyT Ln) ((d + 1), 242, 170, [mR 0, mR 4, mR 92, mI z3], [], σ)
  else
  (bif decide ((mand (σ 0 (Int.toNat z3)) 63) = 5) then
  srun (lyT Ln) ((d + 1), 242, 187, [mR 0, mR 4, mR 92, mI z3], [], σ)
  else
  (bif decide ((mand (σ 0 (Int.toNat z3)) 63) = 6) then
  srun (lyT Ln) ((d + 1), 242, 194, [mR 0, mR 4, mR 92, mI z3], [], σ)
  else
  (bif decide ((mand (σ 0 (Int.toNat z3)) 63) = 7) then
  srun (lyT Ln) ((d + 1), 242, 201, [mR 0, mR 4, mR 92, mI z3], [], σ)
  else
  (bif decide ((mand (σ 0 (Int.toNat z3)) 63) = 8) then
  srun (lyT Ln) ((d + 1), 242, 208, [mR 0, mR 4, mR 92, mI z3], [], σ)
  else
  (bif decide ((mand (σ 0 (Int.toNat z3)) 63) = 9) then
  srun (lyT Ln) ((d + 1), 242, 225, [mR 0, mR 4, mR 92, mI z3], [], σ)
  else
  (bif decide ((mand (σ 0 (Int.toNat z3)) 63) = 10) then
  srun (lyT Ln) ((d + 1), 242, 252, [mR 0, mR 4, mR 92, mI z3], [], σ)
  else
  (bif decide ((mand (σ 0 (Int.toNat z3)) 63) = 11) then
  srun (lyT Ln) ((d + 1), 242, 279, [mR 0, mR 4, mR 92, mI z3], [], σ)
  else
  (bif decide ((mand (σ 0 (Int.toNat z3)) 63) = 12) then
  srun (lyT Ln) ((d + 1), 242, 306, [mR 0, mR 4, mR 92, mI z3], [], σ)
  else
  (bif decide ((mand (σ 0 (Int.toNat z3)) 63) = 13) then
  srun (lyT Ln) ((d + 1), 242, 333, [mR 0, mR 4, mR 92, mI z3], [], σ)
  else
  (bif decide ((mand (σ 0 (Int.toNat z3)) 63) = 14) then
  srun (lyT Ln) ((d + 1), 242, 360, [mR 0, mR 4, mR 92, mI z3], [], σ)
  else
  (bif decide ((mand (σ 0 (Int.toNat z3)) 63) = 15) then
  srun (lyT Ln) ((d + 1), 242, 387, [mR 0, mR 4, mR 92, mI z3], [], σ)
  else
  (bif decide ((mand (σ 0 (Int.toNat z3)) 63) = 16) then
  srun (lyT Ln) ((d + 1), 242, 414, [mR 0, mR 4, mR 92, mI z3], [], σ)
  else
  (bif decide ((mand (σ 0 (Int.toNat z3)) 63) = 17) then
  srun (lyT Ln) ((d + 1), 242, 451, [mR 0, mR 4, mR 92, mI z3], [], σ)
  else
  (bif decide ((mand (σ 0 (Int.toNat z3)) 63) = 18) then
  srun (lyT Ln) ((d + 1), 242, 478, [mR 0, mR 4, mR 92, mI z3], [], σ)
  else
  (bif decide ((mand (σ 0 (Int.toNat z3)) 63) = 19) then
  srun (lyT Ln) ((d + 1), 242, 495, [mR 0, mR 4, mR 92, mI z3], [], σ)
  else
  (bif decide ((mand (σ 0 (Int.toNat z3)) 63) = 20) then
  srun (lyT Ln) ((d + 1), 242, 522, [mR 0, mR 4, mR 92, mI z3], [], σ)
  else
  (bif decide ((mand (σ 0 (Int.toNat z3)) 63) = 21) then
  srun (lyT Ln) ((d + 1), 242, 549, [mR 0, mR 4, mR 92, mI z3], [], σ)
  else
  (bif decide ((mand (σ 0 (Int.toNat z3)) 63) = 22) then
  srun (lyT Ln) ((d + 1), 242, 566, [mR 0, mR 4, mR 92, mI z3], [], σ)
  else
  (bif decide ((mand (σ 0 (Int.toNat z3)) 63) = 23) then
  srun (lyT Ln) ((d + 1), 242, 603, [mR 0, mR 4, mR 92, mI z3], [], σ)
  else
  (bif decide ((mand (σ 0 (Int.toNat z3)) 63) = 24) then
  srun (lyT Ln) ((d + 1), 242, 650, [mR 0, mR 4, mR 92, mI z3], [], σ)
  else
  (bif decide ((mand (σ 0 (Int.toNat z3)) 63) = 25) then
  srun (lyT Ln) ((d + 1), 242, 677, [mR 0, mR 4, mR 92, mI z3], [], σ)
  else
  (bif decide ((mand (σ 0 (Int.toNat z3)) 63) = 26) then
  srun (lyT Ln) ((d + 1), 242, 704, [mR 0, mR 4, mR 92, mI z3], [], σ)
  else
  (bif decide ((mand (σ 0 (Int.toNat z3)) 63) = 27) then
  srun (lyT Ln) ((d + 1), 242, 721, [mR 0, mR 4, mR 92, mI z3], [], σ)
  else
  (bif decide ((mand (σ 0 (Int.toNat z3)) 63) = 28) then
  srun (lyT Ln) ((d + 1), 242, 728, [mR 0, mR 4, mR 92, mI z3], [], σ)
  else
  (bif decide ((mand (σ 0 (Int.toNat z3)) 63) = 29) then
  srun (lyT Ln) ((d + 1), 242, 755, [mR 0, mR 4, mR 92, mI z3], [], σ)
  else
  (bif decide ((mand (σ 0 (Int.toNat z3)) 63) = 30) then
  srun (lyT Ln) ((d + 1), 242, 812, [mR 0, mR 4, mR 92, mI z3], [], σ)
  else
  (bif decide ((mand (σ 0 (Int.toNat z3)) 63) = 31) then
  srun (lyT Ln) ((d + 1), 242, 869, [mR 0, mR 4, mR 92, mI z3], [], σ)
  else
  (bif decide ((mand (σ 0 (Int.toNat z3)) 63) = 32) then
  srun (lyT Ln) ((d + 1), 242, 906, [mR 0, mR 4, mR 92, mI z3], [], σ)
  else
  (bif decide ((mand (σ 0 (Int.toNat z3)) 63) = 33) then
  srun (lyT Ln) ((d + 1), 242, 964, [mR 0, mR 4, mR 92, mI z3], [], σ)
  else
  (bif decide ((mand (σ 0 (Int.toNat z3)) 63) = 34) then
  srun (lyT Ln) ((d + 1), 242, 1001, [mR 0, mR 4, mR 92, mI z3], [], σ)
  else
  (bif decide ((mand (σ 0 (Int.toNat z3)) 63) = 35) then
  srun (lyT Ln) ((d + 1), 242, 1018, [mR 0, mR 4, mR 92, mI z3], [], σ)
  else
  (bif decide ((mand (σ 0 (Int.toNat z3)) 63) = 36) then
  srun (lyT Ln) ((d + 1), 242, 1035, [mR 0, mR 4, mR 92, mI z3], [], σ)
  else
  (bif decide ((mand (σ 0 (Int.toNat z3)) 63) = 37) then
  srun (lyT Ln) ((d + 1), 242, 1052, [mR 0, mR 4, mR 92, mI z3], [], σ)
  else
  (bif decide ((mand (σ 0 (Int.toNat z3)) 63) = 38) then
  srun (lyT Ln) ((d + 1), 242, 1079, [mR 0, mR 4, mR 92, mI z3], [], σ)
  else
  (bif decide ((mand (σ 0 (Int.toNat z3)) 63) = 39) then
  srun (lyT Ln) ((d + 1), 242, 1106, [mR 0, mR 4, mR 92, mI z3], [], σ)
  else
  (bif decide ((mand (σ 0 (Int.toNat z3)) 63) = 40) then
  srun (lyT Ln) ((d + 1), 242, 1123, [mR 0, mR 4, mR 92, mI z3], [], σ)
  else
  (bif decide ((mand (σ 0 (Int.toNat z3)) 63) = 41) then
  srun (lyT Ln) ((d + 1), 242, 1140, [mR 0, mR 4, mR 92, mI z3], [], σ)
  else
  srun (lyT Ln) ((d + 1), 242, 1147, [mR 0, mR 4, mR 92, mI z3], [], σ)))))))))))))))))))))))))))))))))))))))))))
  else none)) := by
  exact (srun_unr _ [10, 22, 59, 96, 153, 170, 187, 194, 201, 208, 225, 252, 279, 306, 333, 360, 387, 414, 451, 478, 495, 522, 549, 566, 603, 650, 677, 704, 721, 728, 755, 812, 869, 906, 964, 1001, 1018, 1035, 1052, 1079, 1106, 1123, 1140, 1147] 12 _).trans rfl
theorem b_L_law_22 (Ln d : Nat) (σ : mmSt) (z3 : Int) : srun (lyT Ln) ((d + 1), 242, 22, [mR 0, mR 4, mR 92, mI z3], [], σ) =
 (bif minb (mwrap (z3 + 1)) Ln then
 (bif minb (mwrap (z3 + 2)) Ln then
 (bif minb (mwrap (z3 + 3)) Ln then
 (Option.bind (srun (lyT Ln) (d, 106, 0, [mR 4, mI (σ 0 (Int.toNat (mwrap (z3 + 1)))), mI (σ 0 (Int.toNat (mwrap (z3 + 2)))), mI (σ 0 (Int.toNat (mwrap (z3 + 3))))], [], σ)) (fun y1 =>
 (bif minb (mwrap (z3 + 1)) Ln then
 (bif minb (mwrap (z3 + 2)) Ln then
 (bif minb (mwrap (z3 + 3)) Ln then
 (Option.bind (srun (lyT Ln) (d, 159, 0, [mR 92, mI (y1.1 0 (Int.toNat (mwrap (z3 + 1)))), mI (y1.1 0 (Int.toNat (mwrap (z3 + 2)))), mI (y1.1 0 (Int.toNat (mwrap (z3 + 3)))), mJ], [], y1.1)) (fun y2 =>
 (bif decide (y1.2 = y2.2) then
  srun (lyT Ln) ((d + 1), 242, 1147, [mR 0, mR 4, mR 92, mI z3], [], y2.1)
 else
  some (y2.1, 0))))
 else none)
 else none)
 else none)))
 else none)
 else none)
 else none) := by
  exact (srun_unr _ [10, 22, 59, 96, 153, 170, 187, 194, 201, 208, 225, 252, 279, 306, 333, 360, 387, 414, 451, 478, 495, 522, 549, 566, 603, 650, 677, 704, 721, 728, 755, 812, 869, 906, 964, 1001, 1018, 1035, 1052, 1079, 1106, 1123, 1140, 1147] 37 _).trans rfl
theorem b_L_law_59 (Ln d : Nat) (σ : mmSt) (z3 : Int) : srun (lyT Ln) ((d + 1), 242, 59, [mR 0, mR 4, mR 92, mI z3], [], σ) =
 (bif minb (mwrap (z3 + 1)) Ln then
 (bif minb (mwrap (z3 + 2)) Ln then
 (bif minb (mwrap (z3 + 3)) Ln then
 (Option.bind (srun (lyT Ln) (d, 107, 0, [mR 4, mI (σ 0 (Int.toNat (mwrap (z3 + 1)))), mI (σ 0 (Int.toNat (mwrap (z3 + 2)))), mI (σ 0 (Int.toNat (mwrap (z3 + 3)))), mJ], [], σ)) (fun y1 =>
 (bif minb (mwrap (z3 + 1)) Ln then
 (bif minb (mwrap (z3 + 2)) Ln then
 (bif minb (mwrap (z3 + 3)) Ln then
 (Option.bind (srun (lyT Ln) (d, 160, 0, [mR 92, mI (y1.1 0 (Int.toNat (mwrap (z3 + 1)))), mI (y1.1 0 (Int.toNat (mwrap (z3 + 2)))), mI (y1.1 0 (Int.toNat (mwrap (z3 + 3))))], [], y1.1)) (fun y2 =>
 (bif decide (y1.2 = y2.2) then
  srun (lyT Ln) ((d + 1), 242, 1147, [mR 0, mR 4, mR 92, mI z3], [], y2.1)
 else
  some (y2.1, 0))))
 else none)
 else none)
 else none)))
 else none)
 else none)
 else none) := by
  exact (srun_unr _ [10, 22, 59, 96, 153, 170, 187, 194, 201, 208, 225, 252, 279, 306, 333, 360, 387, 414, 451, 478, 495, 522, 549, 566, 603, 650, 677, 704, 721, 728, 755, 812, 869, 906, 964, 1001, 1018, 1035, 1052, 1079, 1106, 1123, 1140, 1147] 37 _).trans rfl
set_option maxRecDepth 100000 in
theorem b_L_law_96 (Ln d : Nat) (σ : mmSt) (z3 : Int) : srun (lyT Ln) ((d + 1), 242, 96, [mR 0, mR 4, mR 92, mI z3], [], σ) =
 (bif minb (mwrap (z3 + 1)) Ln then
 (bif minb (mwrap (z3 + 2)) Ln then
 (bif minb (mwrap (z3 + 3)) Ln then
 (bif minb (mwrap (z3 + 4)) Ln then
 (bif minb (mwrap (z3 + 5)) Ln then
 (Option.bind (srun (lyT Ln) (d, 108, 0, [mR 4, mI (σ 0 (Int.toNat (mwrap (z3 + 1)))), mI (σ 0 (Int.toNat (mwrap (z3 + 2)))), mI (σ 0 (Int.toNat (mwrap (z3 + 3)))), mI (σ 0 (Int.toNat (mwrap (z3 + 4)))), mI (σ 0 (Int.toNat (mwrap (z3 + 5)))), mJ], [], σ)) (fun y1 =>
 (bif minb (mwrap (z3 + 1)) Ln then
 (bif minb (mwrap (z3 + 2)) Ln then
 (bif minb (mwrap (z3 + 3)) Ln then
 (bif minb (mwrap (z3 + 4)) Ln then
 (bif minb (mwrap (z3 + 5)) Ln then
 (Option.bind (srun (lyT Ln) (d, 161, 0, [mR 92, mI (y1.1 0 (Int.toNat (mwrap (z3 + 1)))), mI (y1.1 0 (Int.toNat (mwrap (z3 + 2)))), mI (y1.1 0 (Int.toNat (mwrap (z3 + 3)))), mI (y1.1 0 (Int.toNat (mwrap (z3 + 4)))), mI (y1.1 0 (Int.toNat (mwrap (z3 + 5)))), mJ, mJ, mJ], [], y1.1)) (fun y2 =>
 (bif decide (y1.2 = y2.2) then
  srun (lyT Ln) ((d + 1), 242, 1147, [mR 0, mR 4, mR 92, mI z3], [], y2.1)
 else
  some (y2.1, 0))))
 else none)
 else none)
 else none)
 else none)
 else none)))
 else none)
 else none)
 else none)
 else none)
 else none) := by
  exact (srun_unr _ [10, 22, 59, 96, 153, 170, 187, 194, 201, 208, 225, 252, 279, 306, 333, 360, 387, 414, 451, 478, 495, 522, 549, 566, 603, 650, 677, 704, 721, 728, 755, 812, 869, 906, 964, 1001, 1018, 1035, 1052, 1079, 1106, 1123, 1140, 1147] 57 _).trans rfl
theorem b_L_law_153 (Ln d : Nat) (σ : mmSt) (z3 : Int) : srun (lyT Ln) ((d + 1), 242, 153, [mR 0, mR 4, mR 92, mI z3], [], σ) =
 (bif minb (mwrap (z3 + 1)) Ln then
 (Option.bind (srun (lyT Ln) (d, 109, 0, [mR 4, mI (σ 0 (Int.toNat (mwrap (z3 + 1))))], [], σ)) (fun y1 =>
 (bif minb (mwrap (z3 + 1)) Ln then
 (Option.bind (srun (lyT Ln) (d, 162, 0, [mR 92, mI (y1.1 0 (Int.toNat (mwrap (z3 + 1))))], [], y1.1)) (fun y2 =>
 (bif decide (y1.2 = y2.2) then
  srun (lyT Ln) ((d + 1), 242, 1147, [mR 0, mR 4, mR 92, mI z3], [], y2.1)
 else
  some (y2.1, 0))))
 else none)))
 else none) := by
  exact (srun_unr _ [10, 22, 59, 96, 153, 170, 187, 194, 201, 208, 225, 252, 279, 306, 333, 360, 387, 414, 451, 478, 495, 522, 549, 566, 603, 650, 677, 704, 721, 728, 755, 812, 869, 906, 964, 1001, 1018, 1035, 1052, 1079, 1106, 1123, 1140, 1147] 17 _).trans rfl
theorem b_L_law_170 (Ln d : Nat) (σ : mmSt) (z3 : Int) : srun (lyT Ln) ((d + 1), 242, 170, [mR 0, mR 4, mR 92, mI z3], [], σ) =
 (bif minb (mwrap (z3 + 1)) Ln then
 (Option.bind (srun (lyT Ln) (d, 110, 0, [mR 4, mI (σ 0 (Int.toNat (mwrap (z3 + 1))))], [], σ)) (fun y1 =>
 (bif minb (mwrap (z3 + 1)) Ln then
 (Option.bind (srun (lyT Ln) (d, 163, 0, [mR 92, mI (y1.1 0 (Int.toNat (mwrap (z3 + 1))))], [], y1.1)) (fun y2 =>
 (bif decide (y1.2 = y2.2) then
  srun (lyT Ln) ((d + 1), 242, 1147, [mR 0, mR 4, mR 92, mI z3], [], y2.1)
 else
  some (y2.1, 0))))
 else none)))
 else none) := by
  exact (srun_unr _ [10, 22, 59, 96, 153, 170, 187, 194, 201, 208, 225, 252, 279, 306, 333, 360, 387, 414, 451, 478, 495, 522, 549, 566, 603, 650, 677, 704, 721, 728, 755, 812, 869, 906, 964, 1001, 1018, 1035, 1052, 1079, 1106, 1123, 1140, 1147] 17 _).trans rfl
theorem b_L_law_187 (Ln d : Nat) (σ : mmSt) (z3 : Int) : srun (lyT Ln) ((d + 1), 242, 187, [mR 0, mR 4, mR 92, mI z3], [], σ) =
 (Option.bind (srun (lyT Ln) (d, 111, 0, [mR 4, mJ], [], σ)) (fun y1 =>
 (Option.bind (srun (lyT Ln) (d, 177, 0, [mR 92, mJ, mJ], [], y1.1)) (fun y2 =>
 (bif decide (y1.2 = y2.2) then
  srun (lyT Ln) ((d + 1), 242, 1147, [mR 0, mR 4, mR 92, mI z3], [], y2.1)
 else
  some (y2.1, 0)))))) := by
  exact (srun_unr _ [10, 22, 59, 96, 153, 170, 187, 194, 201, 208, 225, 252, 279, 306, 333, 360, 387, 414, 451, 478, 495, 522, 549, 566, 603, 650, 677, 704, 721, 728, 755, 812, 869, 906, 964, 1001, 1018, 1035, 1052, 1079, 1106, 1123, 1140, 1147] 7 _).trans rfl
theorem b_L_law_194 (Ln d : Nat) (σ : mmSt) (z3 : Int) : srun (lyT Ln) ((d + 1), 242, 194, [mR 0, mR 4, mR 92, mI z3], [], σ) =
 (Option.bind (srun (lyT Ln) (d, 112, 0, [mR 4], [], σ)) (fun y1 =>
 (Option.bind (srun (lyT Ln) (d, 172, 0, [mR 92], [], y1.1)) (fun y2 =>
 (bif decide (y1.2 = y2.2) then
  srun (lyT Ln) ((d + 1), 242, 1147, [mR 0, mR 4, mR 92, mI z3], [], y2.1)
 else
  some (y2.1, 0)))))) := by
  exact (srun_unr _ [10, 22, 59, 96, 153, 170, 187, 194, 201, 208, 225, 252, 279, 306, 333, 360, 387, 414, 451, 478, 495, 522, 549, 566, 603, 650, 677, 704, 721, 728, 755, 812, 869, 906, 964, 1001, 1018, 1035, 1052, 1079, 1106, 1123, 1140, 1147] 7 _).trans rfl
theorem b_L_law_201 (Ln d : Nat) (σ : mmSt) (z3 : Int) : srun (lyT Ln) ((d + 1), 242, 201, [mR 0, mR 4, mR 92, mI z3], [], σ) =
 (Option.bind (srun (lyT Ln) (d, 113, 0, [mR 4], [], σ)) (fun y1 =>
 (Option.bind (srun (lyT Ln) (d, 202, 0, [mR 92, mJ], [], y1.1)) (fun y2 =>
 (bif decide (y1.2 = y2.2) then
  srun (lyT Ln) ((d + 1), 242, 1147, [mR 0, mR 4, mR 92, mI z3], [], y2.1)
 else
  some (y2.1, 0)))))) := by
  exact (srun_unr _ [10, 22, 59, 96, 153, 170, 187, 194, 201, 208, 225, 252, 279, 306, 333, 360, 387, 414, 451, 478, 495, 522, 549, 566, 603, 650, 677, 704, 721, 728, 755, 812, 869, 906, 964, 1001, 1018, 1035, 1052, 1079, 1106, 1123, 1140, 1147] 7 _).trans rfl
theorem b_L_law_208 (Ln d : Nat) (σ : mmSt) (z3 : Int) : srun (lyT Ln) ((d + 1), 242, 208, [mR 0, mR 4, mR 92, mI z3], [], σ) =
 (bif minb (mwrap (z3 + 1)) Ln then
 (Option.bind (srun (lyT Ln) (d, 114, 0, [mR 4, mI (σ 0 (Int.toNat (mwrap (z3 + 1)))), mJ], [], σ)) (fun y1 =>
 (bif minb (mwrap (z3 + 1)) Ln then
 (Option.bind (srun (lyT Ln) (d, 197, 0, [mR 92, mI (y1.1 0 (Int.toNat (mwrap (z3 + 1)))), mJ], [], y1.1)) (fun y2 =>
 (bif decide (y1.2 = y2.2) then
  srun (lyT Ln) ((d + 1), 242, 1147, [mR 0, mR 4, mR 92, mI z3], [], y2.1)
 else
  some (y2.1, 0))))
 else none)))
 else none) := by
  exact (srun_unr _ [10, 22, 59, 96, 153, 170, 187, 194, 201, 208, 225, 252, 279, 306, 333, 360, 387, 414, 451, 478, 495, 522, 549, 566, 603, 650, 677, 704, 721, 728, 755, 812, 869, 906, 964, 1001, 1018, 1035, 1052, 1079, 1106, 1123, 1140, 1147] 17 _).trans rfl
theorem b_L_law_225 (Ln d : Nat) (σ : mmSt) (z3 : Int) : srun (lyT Ln) ((d + 1), 242, 225, [mR 0, mR 4, mR 92, mI z3], [], σ) =
 (bif minb (mwrap (z3 + 1)) Ln then
 (bif minb (mwrap (z3 + 2)) Ln then
 (Option.bind (srun (lyT Ln) (d, 115, 0, [mR 4, mI (σ 0 (Int.toNat (mwrap (z3 + 1)))), mI (σ 0 (Int.toNat (mwrap (z3 + 2))))], [], σ)) (fun y1 =>
 (bif minb (mwrap (z3 + 1)) Ln then
 (bif minb (mwrap (z3 + 2)) Ln then
 (Option.bind (srun (lyT Ln) (d, 198, 0, [mR 92, mI (y1.1 0 (Int.toNat (mwrap (z3 + 1)))), mI (y1.1 0 (Int.toNat (mwrap (z3 + 2))))], [], y1.1)) (fun y2 =>
 (bif decide (y1.2 = y2.2) then
  srun (lyT Ln) ((d + 1), 242, 1147, [mR 0, mR 4, mR 92, mI z3], [], y2.1)
 else
  some (y2.1, 0))))
 else none)
 else none)))
 else none)
 else none) := by
  exact (srun_unr _ [10, 22, 59, 96, 153, 170, 187, 194, 201, 208, 225, 252, 279, 306, 333, 360, 387, 414, 451, 478, 495, 522, 549, 566, 603, 650, 677, 704, 721, 728, 755, 812, 869, 906, 964, 1001, 1018, 1035, 1052, 1079, 1106, 1123, 1140, 1147] 27 _).trans rfl
theorem b_L_law_252 (Ln d : Nat) (σ : mmSt) (z3 : Int) : srun (lyT Ln) ((d + 1), 242, 252, [mR 0, mR 4, mR 92, mI z3], [], σ) =
 (bif minb (mwrap (z3 + 1)) Ln then
 (bif minb (mwrap (z3 + 2)) Ln then
 (Option.bind (srun (lyT Ln) (d, 116, 0, [mR 4, mI (σ 0 (Int.toNat (mwrap (z3 + 1)))), mI (σ 0 (Int.toNat (mwrap (z3 + 2)))), mJ], [], σ)) (fun y1 =>
 (bif minb (mwrap (z3 + 1)) Ln then
 (bif minb (mwrap (z3 + 2)) Ln then
 (Option.bind (srun (lyT Ln) (d, 199, 0, [mR 92, mI (y1.1 0 (Int.toNat (mwrap (z3 + 1)))), mI (y1.1 0 (Int.toNat (mwrap (z3 + 2)))), mJ], [], y1.1)) (fun y2 =>
 (bif decide (y1.2 = y2.2) then
  srun (lyT Ln) ((d + 1), 242, 1147, [mR 0, mR 4, mR 92, mI z3], [], y2.1)
 else
  some (y2.1, 0))))
 else none)
 else none)))
 else none)
 else none) := by
  exact (srun_unr _ [10, 22, 59, 96, 153, 170, 187, 194, 201, 208, 225, 252, 279, 306, 333, 360, 387, 414, 451, 478, 495, 522, 549, 566, 603, 650, 677, 704, 721, 728, 755, 812, 869, 906, 964, 1001, 1018, 1035, 1052, 1079, 1106, 1123, 1140, 1147] 27 _).trans rfl
theorem b_L_law_279 (Ln d : Nat) (σ : mmSt) (z3 : Int) : srun (lyT Ln) ((d + 1), 242, 279, [mR 0, mR 4, mR 92, mI z3], [], σ) =
 (bif minb (mwrap (z3 + 1)) Ln then
 (bif minb (mwrap (z3 + 2)) Ln then
 (Option.bind (srun (lyT Ln) (d, 117, 0, [mR 4, mI (σ 0 (Int.toNat (mwrap (z3 + 1)))), mI (σ 0 (Int.toNat (mwrap (z3 + 2)))), mJ], [], σ)) (fun y1 =>
 (bif minb (mwrap (z3 + 1)) Ln then
 (bif minb (mwrap (z3 + 2)) Ln then
 (Option.bind (srun (lyT Ln) (d, 200, 0, [mR 92, mI (y1.1 0 (Int.toNat (mwrap (z3 + 1)))), mI (y1.1 0 (Int.toNat (mwrap (z3 + 2)))), mJ], [], y1.1)) (fun y2 =>
 (bif decide (y1.2 = y2.2) then
  srun (lyT Ln) ((d + 1), 242, 1147, [mR 0, mR 4, mR 92, mI z3], [], y2.1)
 else
  some (y2.1, 0))))
 else none)
 else none)))
 else none)
 else none) := by
  exact (srun_unr _ [10, 22, 59, 96, 153, 170, 187, 194, 201, 208, 225, 252, 279, 306, 333, 360, 387, 414, 451, 478, 495, 522, 549, 566, 603, 650, 677, 704, 721, 728, 755, 812, 869, 906, 964, 1001, 1018, 1035, 1052, 1079, 1106, 1123, 1140, 1147] 27 _).trans rfl
theorem b_L_law_306 (Ln d : Nat) (σ : mmSt) (z3 : Int) : srun (lyT Ln) ((d + 1), 242, 306, [mR 0, mR 4, mR 92, mI z3], [], σ) =
 (bif minb (mwrap (z3 + 1)) Ln then
 (bif minb (mwrap (z3 + 2)) Ln then
 (Option.bind (srun (lyT Ln) (d, 118, 0, [mR 4, mI (σ 0 (Int.toNat (mwrap (z3 + 1)))), mI (σ 0 (Int.toNat (mwrap (z3 + 2)))), mJ], [], σ)) (fun y1 =>
 (bif minb (mwrap (z3 + 1)) Ln then
 (bif minb (mwrap (z3 + 2)) Ln then
 (Option.bind (srun (lyT Ln) (d, 201, 0, [mR 92, mI (y1.1 0 (Int.toNat (mwrap (z3 + 1)))), mI (y1.1 0 (Int.toNat (mwrap (z3 + 2)))), mJ], [], y1.1)) (fun y2 =>
 (bif decide (y1.2 = y2.2) then
  srun (lyT Ln) ((d + 1), 242, 1147, [mR 0, mR 4, mR 92, mI z3], [], y2.1)
 else
  some (y2.1, 0))))
 else none)
 else none)))
 else none)
 else none) := by
  exact (srun_unr _ [10, 22, 59, 96, 153, 170, 187, 194, 201, 208, 225, 252, 279, 306, 333, 360, 387, 414, 451, 478, 495, 522, 549, 566, 603, 650, 677, 704, 721, 728, 755, 812, 869, 906, 964, 1001, 1018, 1035, 1052, 1079, 1106, 1123, 1140, 1147] 27 _).trans rfl
theorem b_L_law_333 (Ln d : Nat) (σ : mmSt) (z3 : Int) : srun (lyT Ln) ((d + 1), 242, 333, [mR 0, mR 4, mR 92, mI z3], [], σ) =
 (bif minb (mwrap (z3 + 1)) Ln then
 (bif minb (mwrap (z3 + 2)) Ln then
 (Option.bind (srun (lyT Ln) (d, 119, 0, [mR 4, mI (σ 0 (Int.toNat (mwrap (z3 + 1)))), mI (σ 0 (Int.toNat (mwrap (z3 + 2))))], [], σ)) (fun y1 =>
 (bif minb (mwrap (z3 + 1)) Ln then
 (bif minb (mwrap (z3 + 2)) Ln then
 (Option.bind (srun (lyT Ln) (d, 203, 0, [mR 92, mI (y1.1 0 (Int.toNat (mwrap (z3 + 1)))), mI (y1.1 0 (Int.toNat (mwrap (z3 + 2)))), mJ, mJ], [], y1.1)) (fun y2 =>
 (bif decide (y1.2 = y2.2) then
  srun (lyT Ln) ((d + 1), 242, 1147, [mR 0, mR 4, mR 92, mI z3], [], y2.1)
 else
  some (y2.1, 0))))
 else none)
 else none)))
 else none)
 else none) := by
  exact (srun_unr _ [10, 22, 59, 96, 153, 170, 187, 194, 201, 208, 225, 252, 279, 306, 333, 360, 387, 414, 451, 478, 495, 522, 549, 566, 603, 650, 677, 704, 721, 728, 755, 812, 869, 906, 964, 1001, 1018, 1035, 1052, 1079, 1106, 1123, 1140, 1147] 27 _).trans rfl
theorem b_L_law_360 (Ln d : Nat) (σ : mmSt) (z3 : Int) : srun (lyT Ln) ((d + 1), 242, 360, [mR 0, mR 4, mR 92, mI z3], [], σ) =
 (bif minb (mwrap (z3 + 1)) Ln then
 (bif minb (mwrap (z3 + 2)) Ln then
 (Option.bind (srun (lyT Ln) (d, 120, 0, [mR 4, mI (σ 0 (Int.toNat (mwrap (z3 + 1)))), mI (σ 0 (Int.toNat (mwrap (z3 + 2))))], [], σ)) (fun y1 =>
 (bif minb (mwrap (z3 + 1)) Ln then
 (bif minb (mwrap (z3 + 2)) Ln then
 (Option.bind (srun (lyT Ln) (d, 204, 0, [mR 92, mI (y1.1 0 (Int.toNat (mwrap (z3 + 1)))), mI (y1.1 0 (Int.toNat (mwrap (z3 + 2))))], [], y1.1)) (fun y2 =>
 (bif decide (y1.2 = y2.2) then
  srun (lyT Ln) ((d + 1), 242, 1147, [mR 0, mR 4, mR 92, mI z3], [], y2.1)
 else
  some (y2.1, 0))))
 else none)
 else none)))
 else none)
 else none) := by
  exact (srun_unr _ [10, 22, 59, 96, 153, 170, 187, 194, 201, 208, 225, 252, 279, 306, 333, 360, 387, 414, 451, 478, 495, 522, 549, 566, 603, 650, 677, 704, 721, 728, 755, 812, 869, 906, 964, 1001, 1018, 1035, 1052, 1079, 1106, 1123, 1140, 1147] 27 _).trans rfl
theorem b_L_law_387 (Ln d : Nat) (σ : mmSt) (z3 : Int) : srun (lyT Ln) ((d + 1), 242, 387, [mR 0, mR 4, mR 92, mI z3], [], σ) =
 (bif minb (mwrap (z3 + 1)) Ln then
 (bif minb (mwrap (z3 + 2)) Ln then
 (Option.bind (srun (lyT Ln) (d, 121, 0, [mR 4, mI (σ 0 (Int.toNat (mwrap (z3 + 1)))), mI (σ 0 (Int.toNat (mwrap (z3 + 2))))], [], σ)) (fun y1 =>
 (bif minb (mwrap (z3 + 1)) Ln then
 (bif minb (mwrap (z3 + 2)) Ln then
 (Option.bind (srun (lyT Ln) (d, 205, 0, [mR 92, mI (y1.1 0 (Int.toNat (mwrap (z3 + 1)))), mI (y1.1 0 (Int.toNat (mwrap (z3 + 2)))), mJ, mJ, mJ], [], y1.1)) (fun y2 =>
 (bif decide (y1.2 = y2.2) then
  srun (lyT Ln) ((d + 1), 242, 1147, [mR 0, mR 4, mR 92, mI z3], [], y2.1)
 else
  some (y2.1, 0))))
 else none)
 else none)))
 else none)
 else none) := by
  exact (srun_unr _ [10, 22, 59, 96, 153, 170, 187, 194, 201, 208, 225, 252, 279, 306, 333, 360, 387, 414, 451, 478, 495, 522, 549, 566, 603, 650, 677, 704, 721, 728, 755, 812, 869, 906, 964, 1001, 1018, 1035, 1052, 1079, 1106, 1123, 1140, 1147] 27 _).trans rfl
theorem b_L_law_414 (Ln d : Nat) (σ : mmSt) (z3 : Int) : srun (lyT Ln) ((d + 1), 242, 414, [mR 0, mR 4, mR 92, mI z3], [], σ) =
 (bif minb (mwrap (z3 + 1)) Ln then
 (bif minb (mwrap (z3 + 2)) Ln then
 (bif minb (mwrap (z3 + 3)) Ln then
 (Option.bind (srun (lyT Ln) (d, 122, 0, [mR 4, mI (σ 0 (Int.toNat (mwrap (z3 + 1)))), mI (σ 0 (Int.toNat (mwrap (z3 + 2)))), mI (σ 0 (Int.toNat (mwrap (z3 + 3))))], [], σ)) (fun y1 =>
 (bif minb (mwrap (z3 + 1)) Ln then
 (bif minb (mwrap (z3 + 2)) Ln then
 (bif minb (mwrap (z3 + 3)) Ln then
 (Option.bind (srun (lyT Ln) (d, 206, 0, [mR 92, mI (y1.1 0 (Int.toNat (mwrap (z3 + 1)))), mI (y1.1 0 (Int.toNat (mwrap (z3 + 2)))), mI (y1.1 0 (Int.toNat (mwrap (z3 + 3))))], [], y1.1)) (fun y2 =>
 (bif decide (y1.2 = y2.2) then
  srun (lyT Ln) ((d + 1), 242, 1147, [mR 0, mR 4, mR 92, mI z3], [], y2.1)
 else
  some (y2.1, 0))))
 else none)
 else none)
 else none)))
 else none)
 else none)
 else none) := by
  exact (srun_unr _ [10, 22, 59, 96, 153, 170, 187, 194, 201, 208, 225, 252, 279, 306, 333, 360, 387, 414, 451, 478, 495, 522, 549, 566, 603, 650, 677, 704, 721, 728, 755, 812, 869, 906, 964, 1001, 1018, 1035, 1052, 1079, 1106, 1123, 1140, 1147] 37 _).trans rfl
theorem b_L_law_451 (Ln d : Nat) (σ : mmSt) (z3 : Int) : srun (lyT Ln) ((d + 1), 242, 451, [mR 0, mR 4, mR 92, mI z3], [], σ) =
 (bif minb (mwrap (z3 + 1)) Ln then
 (bif minb (mwrap (z3 + 2)) Ln then
 (Option.bind (srun (lyT Ln) (d, 123, 0, [mR 4, mI (σ 0 (Int.toNat (mwrap (z3 + 1)))), mI (σ 0 (Int.toNat (mwrap (z3 + 2))))], [], σ)) (fun y1 =>
 (bif minb (mwrap (z3 + 1)) Ln then
 (bif minb (mwrap (z3 + 2)) Ln then
 (Option.bind (srun (lyT Ln) (d, 207, 0, [mR 92, mI (y1.1 0 (Int.toNat (mwrap (z3 + 1)))), mI (y1.1 0 (Int.toNat (mwrap (z3 + 2))))], [], y1.1)) (fun y2 =>
 (bif decide (y1.2 = y2.2) then
  srun (lyT Ln) ((d + 1), 242, 1147, [mR 0, mR 4, mR 92, mI z3], [], y2.1)
 else
  some (y2.1, 0))))
 else none)
 else none)))
 else none)
 else none) := by
  exact (srun_unr _ [10, 22, 59, 96, 153, 170, 187, 194, 201, 208, 225, 252, 279, 306, 333, 360, 387, 414, 451, 478, 495, 522, 549, 566, 603, 650, 677, 704, 721, 728, 755, 812, 869, 906, 964, 1001, 1018, 1035, 1052, 1079, 1106, 1123, 1140, 1147] 27 _).trans rfl
theorem b_L_law_478 (Ln d : Nat) (σ : mmSt) (z3 : Int) : srun (lyT Ln) ((d + 1), 242, 478, [mR 0, mR 4, mR 92, mI z3], [], σ) =
 (bif minb (mwrap (z3 + 1)) Ln then
 (Option.bind (srun (lyT Ln) (d, 124, 0, [mR 4, mI (σ 0 (Int.toNat (mwrap (z3 + 1))))], [], σ)) (fun y1 =>
 (bif minb (mwrap (z3 + 1)) Ln then
 (Option.bind (srun (lyT Ln) (d, 209, 0, [mR 92, mI (y1.1 0 (Int.toNat (mwrap (z3 + 1))))], [], y1.1)) (fun y2 =>
 (bif decide (y1.2 = y2.2) then
  srun (lyT Ln) ((d + 1), 242, 1147, [mR 0, mR 4, mR 92, mI z3], [], y2.1)
 else
  some (y2.1, 0))))
 else none)))
 else none) := by
  exact (srun_unr _ [10, 22, 59, 96, 153, 170, 187, 194, 201, 208, 225, 252, 279, 306, 333, 360, 387, 414, 451, 478, 495, 522, 549, 566, 603, 650, 677, 704, 721, 728, 755, 812, 869, 906, 964, 1001, 1018, 1035, 1052, 1079, 1106, 1123, 1140, 1147] 17 _).trans rfl
theorem b_L_law_495 (Ln d : Nat) (σ : mmSt) (z3 : Int) : srun (lyT Ln) ((d + 1), 242, 495, [mR 0, mR 4, mR 92, mI z3], [], σ) =
 (bif minb (mwrap (z3 + 1)) Ln then
 (bif minb (mwrap (z3 + 2)) Ln then
 (Option.bind (srun (lyT Ln) (d, 125, 0, [mR 4, mI (σ 0 (Int.toNat (mwrap (z3 + 1)))), mI (σ 0 (Int.toNat (mwrap (z3 + 2))))], [], σ)) (fun y1 =>
 (bif minb (mwrap (z3 + 1)) Ln then
 (bif minb (mwrap (z3 + 2)) Ln then
 (Option.bind (srun (lyT Ln) (d, 210, 0, [mR 92, mI (y1.1 0 (Int.toNat (mwrap (z3 + 1)))), mI (y1.1 0 (Int.toNat (mwrap (z3 + 2)))), mJ], [], y1.1)) (fun y2 =>
 (bif decide (y1.2 = y2.2) then
  srun (lyT Ln) ((d + 1), 242, 1147, [mR 0, mR 4, mR 92, mI z3], [], y2.1)
 else
  some (y2.1, 0))))
 else none)
 else none)))
 else none)
 else none) := by
  exact (srun_unr _ [10, 22, 59, 96, 153, 170, 187, 194, 201, 208, 225, 252, 279, 306, 333, 360, 387, 414, 451, 478, 495, 522, 549, 566, 603, 650, 677, 704, 721, 728, 755, 812, 869, 906, 964, 1001, 1018, 1035, 1052, 1079, 1106, 1123, 1140, 1147] 27 _).trans rfl
theorem b_L_law_522 (Ln d : Nat) (σ : mmSt) (z3 : Int) : srun (lyT Ln) ((d + 1), 242, 522, [mR 0, mR 4, mR 92, mI z3], [], σ) =
 (bif minb (mwrap (z3 + 1)) Ln then
 (bif minb (mwrap (z3 + 2)) Ln then
 (Option.bind (srun (lyT Ln) (d, 126, 0, [mR 4, mI (σ 0 (Int.toNat (mwrap (z3 + 1)))), mI (σ 0 (Int.toNat (mwrap (z3 + 2))))], [], σ)) (fun y1 =>
 (bif minb (mwrap (z3 + 1)) Ln then
 (bif minb (mwrap (z3 + 2)) Ln then
 (Option.bind (srun (lyT Ln) (d, 211, 0, [mR 92, mI (y1.1 0 (Int.toNat (mwrap (z3 + 1)))), mI (y1.1 0 (Int.toNat (mwrap (z3 + 2)))), mJ], [], y1.1)) (fun y2 =>
 (bif decide (y1.2 = y2.2) then
  srun (lyT Ln) ((d + 1), 242, 1147, [mR 0, mR 4, mR 92, mI z3], [], y2.1)
 else
  some (y2.1, 0))))
 else none)
 else none)))
 else none)
 else none) := by
  exact (srun_unr _ [10, 22, 59, 96, 153, 170, 187, 194, 201, 208, 225, 252, 279, 306, 333, 360, 387, 414, 451, 478, 495, 522, 549, 566, 603, 650, 677, 704, 721, 728, 755, 812, 869, 906, 964, 1001, 1018, 1035, 1052, 1079, 1106, 1123, 1140, 1147] 27 _).trans rfl
theorem b_L_law_549 (Ln d : Nat) (σ : mmSt) (z3 : Int) : srun (lyT Ln) ((d + 1), 242, 549, [mR 0, mR 4, mR 92, mI z3], [], σ) =
 (bif minb (mwrap (z3 + 1)) Ln then
 (Option.bind (srun (lyT Ln) (d, 127, 0, [mR 4, mI (σ 0 (Int.toNat (mwrap (z3 + 1))))], [], σ)) (fun y1 =>
 (bif minb (mwrap (z3 + 1)) Ln then
 (Option.bind (srun (lyT Ln) (d, 212, 0, [mR 92, mI (y1.1 0 (Int.toNat (mwrap (z3 + 1)))), mJ, mJ], [], y1.1)) (fun y2 =>
 (bif decide (y1.2 = y2.2) then
  srun (lyT Ln) ((d + 1), 242, 1147, [mR 0, mR 4, mR 92, mI z3], [], y2.1)
 else
  some (y2.1, 0))))
 else none)))
 else none) := by
  exact (srun_unr _ [10, 22, 59, 96, 153, 170, 187, 194, 201, 208, 225, 252, 279, 306, 333, 360, 387, 414, 451, 478, 495, 522, 549, 566, 603, 650, 677, 704, 721, 728, 755, 812, 869, 906, 964, 1001, 1018, 1035, 1052, 1079, 1106, 1123, 1140, 1147] 17 _).trans rfl
theorem b_L_law_566 (Ln d : Nat) (σ : mmSt) (z3 : Int) : srun (lyT Ln) ((d + 1), 242, 566, [mR 0, mR 4, mR 92, mI z3], [], σ) =
 (bif minb (mwrap (z3 + 1)) Ln then
 (bif minb (mwrap (z3 + 2)) Ln then
 (bif minb (mwrap (z3 + 3)) Ln then
 (Option.bind (srun (lyT Ln) (d, 128, 0, [mR 4, mI (σ 0 (Int.toNat (mwrap (z3 + 1)))), mI (σ 0 (Int.toNat (mwrap (z3 + 2)))), mI (σ 0 (Int.toNat (mwrap (z3 + 3))))], [], σ)) (fun y1 =>
 (bif minb (mwrap (z3 + 1)) Ln then
 (bif minb (mwrap (z3 + 2)) Ln then
 (bif minb (mwrap (z3 + 3)) Ln then
 (Option.bind (srun (lyT Ln) (d, 213, 0, [mR 92, mI (y1.1 0 (Int.toNat (mwrap (z3 + 1)))), mI (y1.1 0 (Int.toNat (mwrap (z3 + 2)))), mI (y1.1 0 (Int.toNat (mwrap (z3 + 3)))), mJ, mJ, mJ, mJ, mJ], [], y1.1)) (fun y2 =>
 (bif decide (y1.2 = y2.2) then
  srun (lyT Ln) ((d + 1), 242, 1147, [mR 0, mR 4, mR 92, mI z3], [], y2.1)
 else
  some (y2.1, 0))))
 else none)
 else none)
 else none)))
 else none)
 else none)
 else none) := by
  exact (srun_unr _ [10, 22, 59, 96, 153, 170, 187, 194, 201, 208, 225, 252, 279, 306, 333, 360, 387, 414, 451, 478, 495, 522, 549, 566, 603, 650, 677, 704, 721, 728, 755, 812, 869, 906, 964, 1001, 1018, 1035, 1052, 1079, 1106, 1123, 1140, 1147] 37 _).trans rfl
set_option maxRecDepth 100000 in
theorem b_L_law_603 (Ln d : Nat) (σ : mmSt) (z3 : Int) : srun (lyT Ln) ((d + 1), 242, 603, [mR 0, mR 4, mR 92, mI z3], [], σ) =
 (bif minb (mwrap (z3 + 1)) Ln then
 (bif minb (mwrap (z3 + 2)) Ln then
 (bif minb (mwrap (z3 + 3)) Ln then
 (bif minb (mwrap (z3 + 4)) Ln then
 (Option.bind (srun (lyT Ln) (d, 129, 0, [mR 4, mI (σ 0 (Int.toNat (mwrap (z3 + 1)))), mI (σ 0 (Int.toNat (mwrap (z3 + 2)))), mI (σ 0 (Int.toNat (mwrap (z3 + 3)))), mI (σ 0 (Int.toNat (mwrap (z3 + 4))))], [], σ)) (fun y1 =>
 (bif minb (mwrap (z3 + 1)) Ln then
 (bif minb (mwrap (z3 + 2)) Ln then
 (bif minb (mwrap (z3 + 3)) Ln then
 (bif minb (mwrap (z3 + 4)) Ln then
 (Option.bind (srun (lyT Ln) (d, 214, 0, [mR 92, mI (y1.1 0 (Int.toNat (mwrap (z3 + 1)))), mI (y1.1 0 (Int.toNat (mwrap (z3 + 2)))), mI (y1.1 0 (Int.toNat (mwrap (z3 + 3)))), mI (y1.1 0 (Int.toNat (mwrap (z3 + 4)))), mJ, mJ, mJ], [], y1.1)) (fun y2 =>
 (bif decide (y1.2 = y2.2) then
  srun (lyT Ln) ((d + 1), 242, 1147, [mR 0, mR 4, mR 92, mI z3], [], y2.1)
 else
  some (y2.1, 0))))
 else none)
 else none)
 else none)
 else none)))
 else none)
 else none)
 else none)
 else none) := by
  exact (srun_unr _ [10, 22, 59, 96, 153, 170, 187, 194, 201, 208, 225, 252, 279, 306, 333, 360, 387, 414, 451, 478, 495, 522, 549, 566, 603, 650, 677, 704, 721, 728, 755, 812, 869, 906, 964, 1001, 1018, 1035, 1052, 1079, 1106, 1123, 1140, 1147] 47 _).trans rfl
theorem b_L_law_650 (Ln d : Nat) (σ : mmSt) (z3 : Int) : srun (lyT Ln) ((d + 1), 242, 650, [mR 0, mR 4, mR 92, mI z3], [], σ) =
 (bif minb (mwrap (z3 + 1)) Ln then
 (bif minb (mwrap (z3 + 2)) Ln then
 (Option.bind (srun (lyT Ln) (d, 130, 0, [mR 4, mI (σ 0 (Int.toNat (mwrap (z3 + 1)))), mI (σ 0 (Int.toNat (mwrap (z3 + 2)))), mJ], [], σ)) (fun y1 =>
 (bif minb (mwrap (z3 + 1)) Ln then
 (bif minb (mwrap (z3 + 2)) Ln then
 (Option.bind (srun (lyT Ln) (d, 215, 0, [mR 92, mI (y1.1 0 (Int.toNat (mwrap (z3 + 1)))), mI (y1.1 0 (Int.toNat (mwrap (z3 + 2)))), mJ, mJ, mJ, mJ, mJ], [], y1.1)) (fun y2 =>
 (bif decide (y1.2 = y2.2) then
  srun (lyT Ln) ((d + 1), 242, 1147, [mR 0, mR 4, mR 92, mI z3], [], y2.1)
 else
  some (y2.1, 0))))
 else none)
 else none)))
 else none)
 else none) := by
  exact (srun_unr _ [10, 22, 59, 96, 153, 170, 187, 194, 201, 208, 225, 252, 279, 306, 333, 360, 387, 414, 451, 478, 495, 522, 549, 566, 603, 650, 677, 704, 721, 728, 755, 812, 869, 906, 964, 1001, 1018, 1035, 1052, 1079, 1106, 1123, 1140, 1147] 27 _).trans rfl
theorem b_L_law_677 (Ln d : Nat) (σ : mmSt) (z3 : Int) : srun (lyT Ln) ((d + 1), 242, 677, [mR 0, mR 4, mR 92, mI z3], [], σ) =
 (bif minb (mwrap (z3 + 1)) Ln then
 (bif minb (mwrap (z3 + 2)) Ln then
 (Option.bind (srun (lyT Ln) (d, 131, 0, [mR 4, mI (σ 0 (Int.toNat (mwrap (z3 + 1)))), mI (σ 0 (Int.toNat (mwrap (z3 + 2))))], [], σ)) (fun y1 =>
 (bif minb (mwrap (z3 + 1)) Ln then
 (bif minb (mwrap (z3 + 2)) Ln then
 (Option.bind (srun (lyT Ln) (d, 217, 0, [mR 92, mI (y1.1 0 (Int.toNat (mwrap (z3 + 1)))), mI (y1.1 0 (Int.toNat (mwrap (z3 + 2)))), mJ], [], y1.1)) (fun y2 =>
 (bif decide (y1.2 = y2.2) then
  srun (lyT Ln) ((d + 1), 242, 1147, [mR 0, mR 4, mR 92, mI z3], [], y2.1)
 else
  some (y2.1, 0))))
 else none)
 else none)))
 else none)
 else none) := by
  exact (srun_unr _ [10, 22, 59, 96, 153, 170, 187, 194, 201, 208, 225, 252, 279, 306, 333, 360, 387, 414, 451, 478, 495, 522, 549, 566, 603, 650, 677, 704, 721, 728, 755, 812, 869, 906, 964, 1001, 1018, 1035, 1052, 1079, 1106, 1123, 1140, 1147] 27 _).trans rfl
theorem b_L_law_704 (Ln d : Nat) (σ : mmSt) (z3 : Int) : srun (lyT Ln) ((d + 1), 242, 704, [mR 0, mR 4, mR 92, mI z3], [], σ) =
 (bif minb (mwrap (z3 + 1)) Ln then
 (Option.bind (srun (lyT Ln) (d, 132, 0, [mR 4, mI (σ 0 (Int.toNat (mwrap (z3 + 1))))], [], σ)) (fun y1 =>
 (bif minb (mwrap (z3 + 1)) Ln then
 (Option.bind (srun (lyT Ln) (d, 218, 0, [mR 92, mI (y1.1 0 (Int.toNat (mwrap (z3 + 1))))], [], y1.1)) (fun y2 =>
 (bif decide (y1.2 = y2.2) then
  srun (lyT Ln) ((d + 1), 242, 1147, [mR 0, mR 4, mR 92, mI z3], [], y2.1)
 else
  some (y2.1, 0))))
 else none)))
 else none) := by
  exact (srun_unr _ [10, 22, 59, 96, 153, 170, 187, 194, 201, 208, 225, 252, 279, 306, 333, 360, 387, 414, 451, 478, 495, 522, 549, 566, 603, 650, 677, 704, 721, 728, 755, 812, 869, 906, 964, 1001, 1018, 1035, 1052, 1079, 1106, 1123, 1140, 1147] 17 _).trans rfl
theorem b_L_law_721 (Ln d : Nat) (σ : mmSt) (z3 : Int) : srun (lyT Ln) ((d + 1), 242, 721, [mR 0, mR 4, mR 92, mI z3], [], σ) =
 (Option.bind (srun (lyT Ln) (d, 133, 0, [mR 4], [], σ)) (fun y1 =>
 (Option.bind (srun (lyT Ln) (d, 219, 0, [mR 92, mJ, mJ], [], y1.1)) (fun y2 =>
 (bif decide (y1.2 = y2.2) then
  srun (lyT Ln) ((d + 1), 242, 1147, [mR 0, mR 4, mR 92, mI z3], [], y2.1)
 else
  some (y2.1, 0)))))) := by
  exact (srun_unr _ [10, 22, 59, 96, 153, 170, 187, 194, 201, 208, 225, 252, 279, 306, 333, 360, 387, 414, 451, 478, 495, 522, 549, 566, 603, 650, 677, 704, 721, 728, 755, 812, 869, 906, 964, 1001, 1018, 1035, 1052, 1079, 1106, 1123, 1140, 1147] 7 _).trans rfl
theorem b_L_law_728 (Ln d : Nat) (σ : mmSt) (z3 : Int) : srun (lyT Ln) ((d + 1), 242, 728, [mR 0, mR 4, mR 92, mI z3], [], σ) =
 (bif minb (mwrap (z3 + 1)) Ln then
 (bif minb (mwrap (z3 + 2)) Ln then
 (Option.bind (srun (lyT Ln) (d, 134, 0, [mR 4, mI (σ 0 (Int.toNat (mwrap (z3 + 1)))), mI (σ 0 (Int.toNat (mwrap (z3 + 2)))), mJ], [], σ)) (fun y1 =>
 (bif minb (mwrap (z3 + 1)) Ln then
 (bif minb (mwrap (z3 + 2)) Ln then
 (Option.bind (srun (lyT Ln) (d, 220, 0, [mR 92, mI (y1.1 0 (Int.toNat (mwrap (z3 + 1)))), mI (y1.1 0 (Int.toNat (mwrap (z3 + 2)))), mJ, mJ], [], y1.1)) (fun y2 =>
 (bif decide (y1.2 = y2.2) then
  srun (lyT Ln) ((d + 1), 242, 1147, [mR 0, mR 4, mR 92, mI z3], [], y2.1)
 else
  some (y2.1, 0))))
 else none)
 else none)))
 else none)
 else none) := by
  exact (srun_unr _ [10, 22, 59, 96, 153, 170, 187, 194, 201, 208, 225, 252, 279, 306, 333, 360, 387, 414, 451, 478, 495, 522, 549, 566, 603, 650, 677, 704, 721, 728, 755, 812, 869, 906, 964, 1001, 1018, 1035, 1052, 1079, 1106, 1123, 1140, 1147] 27 _).trans rfl
set_option maxRecDepth 100000 in
theorem b_L_law_755 (Ln d : Nat) (σ : mmSt) (z3 : Int) : srun (lyT Ln) ((d + 1), 242, 755, [mR 0, mR 4, mR 92, mI z3], [], σ) =
 (bif minb (mwrap (z3 + 1)) Ln then
 (bif minb (mwrap (z3 + 2)) Ln then
 (bif minb (mwrap (z3 + 3)) Ln then
 (bif minb (mwrap (z3 + 4)) Ln then
 (bif minb (mwrap (z3 + 5)) Ln then
 (Option.bind (srun (lyT Ln) (d, 135, 0, [mR 4, mI (σ 0 (Int.toNat (mwrap (z3 + 1)))), mI (σ 0 (Int.toNat (mwrap (z3 + 2)))), mI (σ 0 (Int.toNat (mwrap (z3 + 3)))), mI (σ 0 (Int.toNat (mwrap (z3 + 4)))), mI (σ 0 (Int.toNat (mwrap (z3 + 5)))), mJ], [], σ)) (fun y1 =>
 (bif minb (mwrap (z3 + 1)) Ln then
 (bif minb (mwrap (z3 + 2)) Ln then
 (bif minb (mwrap (z3 + 3)) Ln then
 (bif minb (mwrap (z3 + 4)) Ln then
 (bif minb (mwrap (z3 + 5)) Ln then
 (Option.bind (srun (lyT Ln) (d, 223, 0, [mR 92, mI (y1.1 0 (Int.toNat (mwrap (z3 + 1)))), mI (y1.1 0 (Int.toNat (mwrap (z3 + 2)))), mI (y1.1 0 (Int.toNat (mwrap (z3 + 3)))), mI (y1.1 0 (Int.toNat (mwrap (z3 + 4)))), mI (y1.1 0 (Int.toNat (mwrap (z3 + 5)))), mJ, mJ, mJ, mJ], [], y1.1)) (fun y2 =>
 (bif decide (y1.2 = y2.2) then
  srun (lyT Ln) ((d + 1), 242, 1147, [mR 0, mR 4, mR 92, mI z3], [], y2.1)
 else
  some (y2.1, 0))))
 else none)
 else none)
 else none)
 else none)
 else none)))
 else none)
 else none)
 else none)
 else none)
 else none) := by
  exact (srun_unr _ [10, 22, 59, 96, 153, 170, 187, 194, 201, 208, 225, 252, 279, 306, 333, 360, 387, 414, 451, 478, 495, 522, 549, 566, 603, 650, 677, 704, 721, 728, 755, 812, 869, 906, 964, 1001, 1018, 1035, 1052, 1079, 1106, 1123, 1140, 1147] 57 _).trans rfl
set_option maxRecDepth 100000 in
theorem b_L_law_812 (Ln d : Nat) (σ : mmSt) (z3 : Int) : srun (lyT Ln) ((d + 1), 242, 812, [mR 0, mR 4, mR 92, mI z3], [], σ) =
 (bif minb (mwrap (z3 + 1)) Ln then
 (bif minb (mwrap (z3 + 2)) Ln then
 (bif minb (mwrap (z3 + 3)) Ln then
 (bif minb (mwrap (z3 + 4)) Ln then
 (bif minb (mwrap (z3 + 5)) Ln then
 (Option.bind (srun (lyT Ln) (d, 136, 0, [mR 4, mI (σ 0 (Int.toNat (mwrap (z3 + 1)))), mI (σ 0 (Int.toNat (mwrap (z3 + 2)))), mI (σ 0 (Int.toNat (mwrap (z3 + 3)))), mI (σ 0 (Int.toNat (mwrap (z3 + 4)))), mI (σ 0 (Int.toNat (mwrap (z3 + 5)))), mJ], [], σ)) (fun y1 =>
 (bif minb (mwrap (z3 + 1)) Ln then
 (bif minb (mwrap (z3 + 2)) Ln then
 (bif minb (mwrap (z3 + 3)) Ln then
 (bif minb (mwrap (z3 + 4)) Ln then
 (bif minb (mwrap (z3 + 5)) Ln then
 (Option.bind (srun (lyT Ln) (d, 224, 0, [mR 92, mI (y1.1 0 (Int.toNat (mwrap (z3 + 1)))), mI (y1.1 0 (Int.toNat (mwrap (z3 + 2)))), mI (y1.1 0 (Int.toNat (mwrap (z3 + 3)))), mI (y1.1 0 (Int.toNat (mwrap (z3 + 4)))), mI (y1.1 0 (Int.toNat (mwrap (z3 + 5)))), mJ, mJ, mJ], [], y1.1)) (fun y2 =>
 (bif decide (y1.2 = y2.2) then
  srun (lyT Ln) ((d + 1), 242, 1147, [mR 0, mR 4, mR 92, mI z3], [], y2.1)
 else
  some (y2.1, 0))))
 else none)
 else none)
 else none)
 else none)
 else none)))
 else none)
 else none)
 else none)
 else none)
 else none) := by
  exact (srun_unr _ [10, 22, 59, 96, 153, 170, 187, 194, 201, 208, 225, 252, 279, 306, 333, 360, 387, 414, 451, 478, 495, 522, 549, 566, 603, 650, 677, 704, 721, 728, 755, 812, 869, 906, 964, 1001, 1018, 1035, 1052, 1079, 1106, 1123, 1140, 1147] 57 _).trans rfl
theorem b_L_law_869 (Ln d : Nat) (σ : mmSt) (z3 : Int) : srun (lyT Ln) ((d + 1), 242, 869, [mR 0, mR 4, mR 92, mI z3], [], σ) =
 (bif minb (mwrap (z3 + 1)) Ln then
 (bif minb (mwrap (z3 + 2)) Ln then
 (bif minb (mwrap (z3 + 3)) Ln then
 (Option.bind (srun (lyT Ln) (d, 137, 0, [mR 4, mI (σ 0 (Int.toNat (mwrap (z3 + 1)))), mI (σ 0 (Int.toNat (mwrap (z3 + 2)))), mI (σ 0 (Int.toNat (mwrap (z3 + 3)))), mJ], [], σ)) (fun y1 =>
 (bif minb (mwrap (z3 + 1)) Ln then
 (bif minb (mwrap (z3 + 2)) Ln then
 (bif minb (mwrap (z3 + 3)) Ln then
 (Option.bind (srun (lyT Ln) (d, 225, 0, [mR 92, mI (y1.1 0 (Int.toNat (mwrap (z3 + 1)))), mI (y1.1 0 (Int.toNat (mwrap (z3 + 2)))), mI (y1.1 0 (Int.toNat (mwrap (z3 + 3)))), mJ, mJ, mJ], [], y1.1)) (fun y2 =>
 (bif decide (y1.2 = y2.2) then
  srun (lyT Ln) ((d + 1), 242, 1147, [mR 0, mR 4, mR 92, mI z3], [], y2.1)
 else
  some (y2.1, 0))))
 else none)
 else none)
 else none)))
 else none)
 else none)
 else none) := by
  exact (srun_unr _ [10, 22, 59, 96, 153, 170, 187, 194, 201, 208, 225, 252, 279, 306, 333, 360, 387, 414, 451, 478, 495, 522, 549, 566, 603, 650, 677, 704, 721, 728, 755, 812, 869, 906, 964, 1001, 1018, 1035, 1052, 1079, 1106, 1123, 1140, 1147] 37 _).trans rfl
set_option maxRecDepth 100000 in
theorem b_L_law_906 (Ln d : Nat) (σ : mmSt) (z3 : Int) : srun (lyT Ln) ((d + 1), 242, 906, [mR 0, mR 4, mR 92, mI z3], [], σ) =
 (bif minb (mwrap (z3 + 1)) Ln then
 (bif minb (mwrap (z3 + 2)) Ln then
 (bif minb (mwrap (z3 + 3)) Ln then
 (bif minb (mwrap (z3 + 4)) Ln then
 (bif minb (mwrap (z3 + 5)) Ln then
 (Option.bind (srun (lyT Ln) (d, 138, 0, [mR 4, mI (σ 0 (Int.toNat (mwrap (z3 + 1)))), mI (σ 0 (Int.toNat (mwrap (z3 + 2)))), mI (σ 0 (Int.toNat (mwrap (z3 + 3)))), mI (σ 0 (Int.toNat (mwrap (z3 + 4)))), mI (σ 0 (Int.toNat (mwrap (z3 + 5)))), mJ, mJ, mJ, mJ, mJ, mJ], [], σ)) (fun y1 =>
 (bif minb (mwrap (z3 + 1)) Ln then
 (bif minb (mwrap (z3 + 2)) Ln then
 (bif minb (mwrap (z3 + 3)) Ln then
 (bif minb (mwrap (z3 + 4)) Ln then
 (bif minb (mwrap (z3 + 5)) Ln then
 (Option.bind (srun (lyT Ln) (d, 226, 0, [mR 92, mI (y1.1 0 (Int.toNat (mwrap (z3 + 1)))), mI (y1.1 0 (Int.toNat (mwrap (z3 + 2)))), mI (y1.1 0 (Int.toNat (mwrap (z3 + 3)))), mI (y1.1 0 (Int.toNat (mwrap (z3 + 4)))), mI (y1.1 0 (Int.toNat (mwrap (z3 + 5)))), mJ, mJ, mJ, mJ, mJ, mJ, mJ, mJ, mJ, mJ, mJ], [], y1.1)) (fun y2 =>
 (bif decide ((mlcmp y1.2 y2.2) = 0) then
  srun (lyT Ln) ((d + 1), 242, 1147, [mR 0, mR 4, mR 92, mI z3], [], y2.1)
 else
  some (y2.1, 0))))
 else none)
 else none)
 else none)
 else none)
 else none)))
 else none)
 else none)
 else none)
 else none)
 else none) := by
  exact (srun_unr _ [10, 22, 59, 96, 153, 170, 187, 194, 201, 208, 225, 252, 279, 306, 333, 360, 387, 414, 451, 478, 495, 522, 549, 566, 603, 650, 677, 704, 721, 728, 755, 812, 869, 906, 964, 1001, 1018, 1035, 1052, 1079, 1106, 1123, 1140, 1147] 58 _).trans rfl
theorem b_L_law_964 (Ln d : Nat) (σ : mmSt) (z3 : Int) : srun (lyT Ln) ((d + 1), 242, 964, [mR 0, mR 4, mR 92, mI z3], [], σ) =
 (bif minb (mwrap (z3 + 1)) Ln then
 (bif minb (mwrap (z3 + 2)) Ln then
 (bif minb (mwrap (z3 + 3)) Ln then
 (Option.bind (srun (lyT Ln) (d, 139, 0, [mR 4, mI (σ 0 (Int.toNat (mwrap (z3 + 1)))), mI (σ 0 (Int.toNat (mwrap (z3 + 2)))), mI (σ 0 (Int.toNat (mwrap (z3 + 3))))], [], σ)) (fun y1 =>
 (bif minb (mwrap (z3 + 1)) Ln then
 (bif minb (mwrap (z3 + 2)) Ln then
 (bif minb (mwrap (z3 + 3)) Ln then
 (Option.bind (srun (lyT Ln) (d, 227, 0, [mR 92, mI (y1.1 0 (Int.toNat (mwrap (z3 + 1)))), mI (y1.1 0 (Int.toNat (mwrap (z3 + 2)))), mI (y1.1 0 (Int.toNat (mwrap (z3 + 3)))), mJ, mJ, mJ, mJ], [], y1.1)) (fun y2 =>
 (bif decide (y1.2 = y2.2) then
  srun (lyT Ln) ((d + 1), 242, 1147, [mR 0, mR 4, mR 92, mI z3], [], y2.1)
 else
  some (y2.1, 0))))
 else none)
 else none)
 else none)))
 else none)
 else none)
 else none) := by
  exact (srun_unr _ [10, 22, 59, 96, 153, 170, 187, 194, 201, 208, 225, 252, 279, 306, 333, 360, 387, 414, 451, 478, 495, 522, 549, 566, 603, 650, 677, 704, 721, 728, 755, 812, 869, 906, 964, 1001, 1018, 1035, 1052, 1079, 1106, 1123, 1140, 1147] 37 _).trans rfl
theorem b_L_law_1001 (Ln d : Nat) (σ : mmSt) (z3 : Int) : srun (lyT Ln) ((d + 1), 242, 1001, [mR 0, mR 4, mR 92, mI z3], [], σ) =
 (bif minb (mwrap (z3 + 1)) Ln then
 (Option.bind (srun (lyT Ln) (d, 140, 0, [mR 4, mI (σ 0 (Int.toNat (mwrap (z3 + 1))))], [], σ)) (fun y1 =>
 (bif minb (mwrap (z3 + 1)) Ln then
 (Option.bind (srun (lyT Ln) (d, 228, 0, [mR 92, mI (y1.1 0 (Int.toNat (mwrap (z3 + 1)))), mJ], [], y1.1)) (fun y2 =>
 (bif decide (y1.2 = y2.2) then
  srun (lyT Ln) ((d + 1), 242, 1147, [mR 0, mR 4, mR 92, mI z3], [], y2.1)
 else
  some (y2.1, 0))))
 else none)))
 else none) := by
  exact (srun_unr _ [10, 22, 59, 96, 153, 170, 187, 194, 201, 208, 225, 252, 279, 306, 333, 360, 387, 414, 451, 478, 495, 522, 549, 566, 603, 650, 677, 704, 721, 728, 755, 812, 869, 906, 964, 1001, 1018, 1035, 1052, 1079, 1106, 1123, 1140, 1147] 17 _).trans rfl
theorem b_L_law_1018 (Ln d : Nat) (σ : mmSt) (z3 : Int) : srun (lyT Ln) ((d + 1), 242, 1018, [mR 0, mR 4, mR 92, mI z3], [], σ) =
 (bif minb (mwrap (z3 + 1)) Ln then
 (Option.bind (srun (lyT Ln) (d, 141, 0, [mR 4, mI (σ 0 (Int.toNat (mwrap (z3 + 1))))], [], σ)) (fun y1 =>
 (bif minb (mwrap (z3 + 1)) Ln then
 (Option.bind (srun (lyT Ln) (d, 229, 0, [mR 92, mI (y1.1 0 (Int.toNat (mwrap (z3 + 1)))), mJ], [], y1.1)) (fun y2 =>
 (bif decide (y1.2 = y2.2) then
  srun (lyT Ln) ((d + 1), 242, 1147, [mR 0, mR 4, mR 92, mI z3], [], y2.1)
 else
  some (y2.1, 0))))
 else none)))
 else none) := by
  exact (srun_unr _ [10, 22, 59, 96, 153, 170, 187, 194, 201, 208, 225, 252, 279, 306, 333, 360, 387, 414, 451, 478, 495, 522, 549, 566, 603, 650, 677, 704, 721, 728, 755, 812, 869, 906, 964, 1001, 1018, 1035, 1052, 1079, 1106, 1123, 1140, 1147] 17 _).trans rfl
theorem b_L_law_1035 (Ln d : Nat) (σ : mmSt) (z3 : Int) : srun (lyT Ln) ((d + 1), 242, 1035, [mR 0, mR 4, mR 92, mI z3], [], σ) =
 (bif minb (mwrap (z3 + 1)) Ln then
 (Option.bind (srun (lyT Ln) (d, 142, 0, [mR 4, mI (σ 0 (Int.toNat (mwrap (z3 + 1))))], [], σ)) (fun y1 =>
 (bif minb (mwrap (z3 + 1)) Ln then
 (Option.bind (srun (lyT Ln) (d, 231, 0, [mR 92, mI (y1.1 0 (Int.toNat (mwrap (z3 + 1))))], [], y1.1)) (fun y2 =>
 (bif decide (y1.2 = y2.2) then
  srun (lyT Ln) ((d + 1), 242, 1147, [mR 0, mR 4, mR 92, mI z3], [], y2.1)
 else
  some (y2.1, 0))))
 else none)))
 else none) := by
  exact (srun_unr _ [10, 22, 59, 96, 153, 170, 187, 194, 201, 208, 225, 252, 279, 306, 333, 360, 387, 414, 451, 478, 495, 522, 549, 566, 603, 650, 677, 704, 721, 728, 755, 812, 869, 906, 964, 1001, 1018, 1035, 1052, 1079, 1106, 1123, 1140, 1147] 17 _).trans rfl
theorem b_L_law_1052 (Ln d : Nat) (σ : mmSt) (z3 : Int) : srun (lyT Ln) ((d + 1), 242, 1052, [mR 0, mR 4, mR 92, mI z3], [], σ) =
 (bif minb (mwrap (z3 + 1)) Ln then
 (bif minb (mwrap (z3 + 2)) Ln then
 (Option.bind (srun (lyT Ln) (d, 143, 0, [mR 4, mI (σ 0 (Int.toNat (mwrap (z3 + 1)))), mI (σ 0 (Int.toNat (mwrap (z3 + 2))))], [], σ)) (fun y1 =>
 (bif minb (mwrap (z3 + 1)) Ln then
 (bif minb (mwrap (z3 + 2)) Ln then
 (Option.bind (srun (lyT Ln) (d, 232, 0, [mR 92, mI (y1.1 0 (Int.toNat (mwrap (z3 + 1)))), mI (y1.1 0 (Int.toNat (mwrap (z3 + 2))))], [], y1.1)) (fun y2 =>
 (bif decide (y1.2 = y2.2) then
  srun (lyT Ln) ((d + 1), 242, 1147, [mR 0, mR 4, mR 92, mI z3], [], y2.1)
 else
  some (y2.1, 0))))
 else none)
 else none)))
 else none)
 else none) := by
  exact (srun_unr _ [10, 22, 59, 96, 153, 170, 187, 194, 201, 208, 225, 252, 279, 306, 333, 360, 387, 414, 451, 478, 495, 522, 549, 566, 603, 650, 677, 704, 721, 728, 755, 812, 869, 906, 964, 1001, 1018, 1035, 1052, 1079, 1106, 1123, 1140, 1147] 27 _).trans rfl
theorem b_L_law_1079 (Ln d : Nat) (σ : mmSt) (z3 : Int) : srun (lyT Ln) ((d + 1), 242, 1079, [mR 0, mR 4, mR 92, mI z3], [], σ) =
 (bif minb (mwrap (z3 + 1)) Ln then
 (bif minb (mwrap (z3 + 2)) Ln then
 (Option.bind (srun (lyT Ln) (d, 144, 0, [mR 4, mI (σ 0 (Int.toNat (mwrap (z3 + 1)))), mI (σ 0 (Int.toNat (mwrap (z3 + 2))))], [], σ)) (fun y1 =>
 (bif minb (mwrap (z3 + 1)) Ln then
 (bif minb (mwrap (z3 + 2)) Ln then
 (Option.bind (srun (lyT Ln) (d, 238, 0, [mR 92, mI (y1.1 0 (Int.toNat (mwrap (z3 + 1)))), mI (y1.1 0 (Int.toNat (mwrap (z3 + 2))))], [], y1.1)) (fun y2 =>
 (bif decide (y1.2 = y2.2) then
  srun (lyT Ln) ((d + 1), 242, 1147, [mR 0, mR 4, mR 92, mI z3], [], y2.1)
 else
  some (y2.1, 0))))
 else none)
 else none)))
 else none)
 else none) := by
  exact (srun_unr _ [10, 22, 59, 96, 153, 170, 187, 194, 201, 208, 225, 252, 279, 306, 333, 360, 387, 414, 451, 478, 495, 522, 549, 566, 603, 650, 677, 704, 721, 728, 755, 812, 869, 906, 964, 1001, 1018, 1035, 1052, 1079, 1106, 1123, 1140, 1147] 27 _).trans rfl
theorem b_L_law_1106 (Ln d : Nat) (σ : mmSt) (z3 : Int) : srun (lyT Ln) ((d + 1), 242, 1106, [mR 0, mR 4, mR 92, mI z3], [], σ) =
 (bif minb (mwrap (z3 + 1)) Ln then
 (Option.bind (srun (lyT Ln) (d, 145, 0, [mR 4, mI (σ 0 (Int.toNat (mwrap (z3 + 1))))], [], σ)) (fun y1 =>
 (bif minb (mwrap (z3 + 1)) Ln then
 (Option.bind (srun (lyT Ln) (d, 239, 0, [mR 92, mI (y1.1 0 (Int.toNat (mwrap (z3 + 1))))], [], y1.1)) (fun y2 =>
 (bif decide (y1.2 = y2.2) then
  srun (lyT Ln) ((d + 1), 242, 1147, [mR 0, mR 4, mR 92, mI z3], [], y2.1)
 else
  some (y2.1, 0))))
 else none)))
 else none) := by
  exact (srun_unr _ [10, 22, 59, 96, 153, 170, 187, 194, 201, 208, 225, 252, 279, 306, 333, 360, 387, 414, 451, 478, 495, 522, 549, 566, 603, 650, 677, 704, 721, 728, 755, 812, 869, 906, 964, 1001, 1018, 1035, 1052, 1079, 1106, 1123, 1140, 1147] 17 _).trans rfl
theorem b_L_law_1123 (Ln d : Nat) (σ : mmSt) (z3 : Int) : srun (lyT Ln) ((d + 1), 242, 1123, [mR 0, mR 4, mR 92, mI z3], [], σ) =
 (bif minb (mwrap (z3 + 1)) Ln then
 (Option.bind (srun (lyT Ln) (d, 146, 0, [mR 4, mI (σ 0 (Int.toNat (mwrap (z3 + 1))))], [], σ)) (fun y1 =>
 (bif minb (mwrap (z3 + 1)) Ln then
 (Option.bind (srun (lyT Ln) (d, 240, 0, [mR 92, mI (y1.1 0 (Int.toNat (mwrap (z3 + 1)))), mJ, mJ], [], y1.1)) (fun y2 =>
 (bif decide (y1.2 = y2.2) then
  srun (lyT Ln) ((d + 1), 242, 1147, [mR 0, mR 4, mR 92, mI z3], [], y2.1)
 else
  some (y2.1, 0))))
 else none)))
 else none) := by
  exact (srun_unr _ [10, 22, 59, 96, 153, 170, 187, 194, 201, 208, 225, 252, 279, 306, 333, 360, 387, 414, 451, 478, 495, 522, 549, 566, 603, 650, 677, 704, 721, 728, 755, 812, 869, 906, 964, 1001, 1018, 1035, 1052, 1079, 1106, 1123, 1140, 1147] 17 _).trans rfl
theorem b_L_law_1140 (Ln d : Nat) (σ : mmSt) (z3 : Int) : srun (lyT Ln) ((d + 1), 242, 1140, [mR 0, mR 4, mR 92, mI z3], [], σ) =
 (Option.bind (srun (lyT Ln) (d, 147, 0, [mR 4], [], σ)) (fun y1 =>
 (Option.bind (srun (lyT Ln) (d, 241, 0, [mR 92], [], y1.1)) (fun y2 =>
 (bif decide (y1.2 = y2.2) then
  srun (lyT Ln) ((d + 1), 242, 1147, [mR 0, mR 4, mR 92, mI z3], [], y2.1)
 else
  some (y2.1, 0)))))) := by
  exact (srun_unr _ [10, 22, 59, 96, 153, 170, 187, 194, 201, 208, 225, 252, 279, 306, 333, 360, 387, 414, 451, 478, 495, 522, 549, 566, 603, 650, 677, 704, 721, 728, 755, 812, 869, 906, 964, 1001, 1018, 1035, 1052, 1079, 1106, 1123, 1140, 1147] 7 _).trans rfl
theorem b_L_law_1147 (Ln d : Nat) (σ : mmSt) (z3 : Int) : srun (lyT Ln) ((d + 1), 242, 1147, [mR 0, mR 4, mR 92, mI z3], [], σ) =
 srun (lyT Ln) ((d + 1), 242, 10, [mR 0, mR 4, mR 92, mI (mwrap (z3 + 6))], [], σ) := by
  exact (srun_unr _ [10, 22, 59, 96, 153, 170, 187, 194, 201, 208, 225, 252, 279, 306, 333, 360, 387, 414, 451, 478, 495, 522, 549, 566, 603, 650, 677, 704, 721, 728, 755, 812, 869, 906, 964, 1001, 1018, 1035, 1052, 1079, 1106, 1123, 1140, 1147] 2 _).trans rfl
