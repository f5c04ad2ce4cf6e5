/-! GridQuarrelsModel.in(JJJ)Z: method 156; stops [] -/
theorem b_M_in (Ln d : Nat) (σ : mmSt) (x0 x1 x2 : Int) : srun (lyT Ln) ((d + 1), 156, 0, [mL x0, mJ, mL x1, mJ, mL x2, mJ], [], σ) =
 (bif decide ((mlcmp x0 x1) < 0) then
  some (σ, 0)
 else
  (bif decide (0 < (mlcmp x0 x2)) then
   some (σ, 0)
  else
   some (σ, 1))) := by
  exact (srun_unr _ [] 11 _).trans rfl
/-! GridQuarrelsModel.finding(I)I: method 157; stops [] -/
theorem b_M_finding (Ln d : Nat) (σ : mmSt) (x0 : Int) : srun (lyT Ln) ((d + 1), 157, 0, [mR 92, mI x0], [], σ) =
 some ((mup σ 92 1 x0), (mwrap ((-1000010) - x0))) := by
  exact (srun_unr _ [] 7 _).trans rfl
/-! GridQuarrelsModel.isRow(I)Z: method 158; stops [] -/
theorem b_M_isRow (Ln d : Nat) (σ : mmSt) (x0 : Int) : srun (lyT Ln) ((d + 1), 158, 0, [mI x0], [], σ) =
 (Option.bind (srun (lyT Ln) (d, 156, 0, [mL x0, mJ, mL 0, mJ, mL 7, mJ], [], σ)) (fun y1 =>
 (bif decide (0 ≤ y1.2) && decide (y1.2 ≤ 1) then some (y1.1, y1.2) else none))) := by
  exact (srun_unr _ [] 6 _).trans rfl
/-! GridQuarrelsModel.row(III)I: method 159; stops [38] -/
theorem b_M_row (Ln d : Nat) (σ : mmSt) (x0 x1 x2 : Int) : srun (lyT Ln) ((d + 1), 159, 0, [mR 92, mI x0, mI x1, mI x2, mJ], [], σ) =
 (Option.bind (srun (lyT Ln) (d, 158, 0, [mI x0], [], (mup σ 92 0 0))) (fun y1 =>
 (bif decide (y1.2 = 0) then
  some (y1.1, (-1000001))
 else
  (Option.bind (srun (lyT Ln) (d, 156, 0, [mL x1, mJ, mL 0, mJ, mL 2, mJ], [], y1.1)) (fun y2 =>
  (bif decide (y2.2 = 0) then
   some (y2.1, (-1000001))
  else
   (bif decide (x2 ≤ 40) then
    (bif decide (0 ≤ x2) then
     (bif minb x0 8 then
     (bif minb x0 8 then
     srun (lyT Ln) ((d + 1), 159, 38, [mR 92, mI x0, mI x1, mI x2, mI 0], [], (mup (mup (mup y2.1 92 1 0) 93 (Int.toNat x0) x1) 94 (Int.toNat x0) x2))
     else none)
     else none)
    else
     (Option.bind (srun (lyT Ln) (d, 157, 0, [mR 92, mI 4], [], (mup y2.1 92 1 0))) (fun y3 =>
     some (y3.1, y3.2))))
   else
    some (y2.1, (-1000001))))))))) := by
  exact (srun_unr _ [38] 32 _).trans rfl
theorem b_M_row_38 (Ln d : Nat) (σ : mmSt) (z1 z2 z3 z4 : Int) : srun (lyT Ln) ((d + 1), 159, 38, [mR 92, mI z1, mI z2, mI z3, mI z4], [], σ) =
 (bif decide (40 ≤ z4) then
  some (σ, z3)
 else
  (bif minb (mwrap ((mwrap (40 * z1)) + z4)) 320 then
  srun (lyT Ln) ((d + 1), 159, 38, [mR 92, mI z1, mI z2, mI z3, mI (mwrap (z4 + 1))], [], (mup σ 95 (Int.toNat (mwrap ((mwrap (40 * z1)) + z4))) 0))
  else none)) := by
  exact (srun_unr _ [38] 14 _).trans rfl
/-! GridQuarrelsModel.set(III)I: method 160; stops [] -/
set_option maxRecDepth 100000 in
theorem b_M_set (Ln d : Nat) (σ : mmSt) (x0 x1 x2 : Int) : srun (lyT Ln) ((d + 1), 160, 0, [mR 92, mI x0, mI x1, mI x2], [], σ) =
 (Option.bind (srun (lyT Ln) (d, 158, 0, [mI x0], [], (mup σ 92 0 0))) (fun y1 =>
 (bif decide (¬ y1.2 = 0) then
  (bif minb x0 8 then
  (bif decide (0 ≤ ((mup y1.1 92 1 0) 93 (Int.toNat x0))) then
   (bif minb x0 8 then
   (Option.bind (srun (lyT Ln) (d, 156, 0, [mL x1, mJ, mL 0, mJ, mL (mwrap (((mup y1.1 92 1 0) 94 (Int.toNat x0)) - 1)), mJ], [], (mup y1.1 92 1 0))) (fun y2 =>
   (bif decide (¬ y2.2 = 0) then
    (bif minb x0 8 then
    (bif decide (¬ (y2.1 93 (Int.toNat x0)) = 0) then
     (bif minb x0 8 then
     (bif decide (¬ (y2.1 93 (Int.toNat x0)) = 1) then
      (bif minb (mwrap ((mwrap (40 * x0)) + x1)) 320 then
      (bif minb (mwrap ((mwrap (40 * x0)) + x1)) 320 then
      some ((mup y2.1 95 (Int.toNat (mwrap ((mwrap (40 * x0)) + x1))) x2), ((mup y2.1 95 (Int.toNat (mwrap ((mwrap (40 * x0)) + x1))) x2) 95 (Int.toNat (mwrap ((mwrap (40 * x0)) + x1)))))
      else none)
      else none)
     else
      (bif minb (mwrap ((mwrap (40 * x0)) + x1)) 320 then
      (bif minb (mwrap ((mwrap (40 * x0)) + x1)) 320 then
      some ((mup y2.1 95 (Int.toNat (mwrap ((mwrap (40 * x0)) + x1))) (mi2s x2)), ((mup y2.1 95 (Int.toNat (mwrap ((mwrap (40 * x0)) + x1))) (mi2s x2)) 95 (Int.toNat (mwrap ((mwrap (40 * x0)) + x1)))))
      else none)
      else none))
     else none)
    else
     (bif minb (mwrap ((mwrap (40 * x0)) + x1)) 320 then
     (bif minb (mwrap ((mwrap (40 * x0)) + x1)) 320 then
     some ((mup y2.1 95 (Int.toNat (mwrap ((mwrap (40 * x0)) + x1))) (mi2b x2)), ((mup y2.1 95 (Int.toNat (mwrap ((mwrap (40 * x0)) + x1))) (mi2b x2)) 95 (Int.toNat (mwrap ((mwrap (40 * x0)) + x1)))))
     else none)
     else none))
    else none)
   else
    (Option.bind (srun (lyT Ln) (d, 157, 0, [mR 92, mI 2], [], y2.1)) (fun y3 =>
    some (y3.1, y3.2))))))
   else none)
  else
   (Option.bind (srun (lyT Ln) (d, 157, 0, [mR 92, mI 1], [], (mup y1.1 92 1 0))) (fun y4 =>
   some (y4.1, y4.2))))
  else none)
 else
  some (y1.1, (-1000001))))) := by
  exact (srun_unr _ [] 57 _).trans rfl
/-! GridQuarrelsModel.copy(IIIII)I: method 161; stops [84] -/
set_option maxRecDepth 100000 in
theorem b_M_copy (Ln d : Nat) (σ : mmSt) (x0 x1 x2 x3 x4 : Int) : srun (lyT Ln) ((d + 1), 161, 0, [mR 92, mI x0, mI x1, mI x2, mI x3, mI x4, mJ, mJ, mJ], [], σ) =
 (Option.bind (srun (lyT Ln) (d, 158, 0, [mI x0], [], (mup σ 92 0 0))) (fun y1 =>
 (bif decide (y1.2 = 0) then
  some (y1.1, (-1000001))
 else
  (Option.bind (srun (lyT Ln) (d, 158, 0, [mI x2], [], y1.1)) (fun y2 =>
  (bif decide (¬ y2.2 = 0) then
   (bif minb x0 8 then
   (bif decide (((mup y2.1 92 1 0) 93 (Int.toNat x0)) < 0) then
    (Option.bind (srun (lyT Ln) (d, 157, 0, [mR 92, mI 1], [], (mup y2.1 92 1 0))) (fun y3 =>
    some (y3.1, y3.2)))
   else
    (bif minb x2 8 then
    (bif decide (0 ≤ ((mup y2.1 92 1 0) 93 (Int.toNat x2))) then
     (bif minb x0 8 then
     (bif minb x2 8 then
     (bif decide (((mup y2.1 92 1 0) 93 (Int.toNat x0)) = ((mup y2.1 92 1 0) 93 (Int.toNat x2))) then
      (bif decide (x1 < 0) then
       (Option.bind (srun (lyT Ln) (d, 157, 0, [mR 92, mI 2], [], (mup y2.1 92 1 0))) (fun y4 =>
       some (y4.1, y4.2)))
      else
       (bif decide (x3 < 0) then
        (Option.bind (srun (lyT Ln) (d, 157, 0, [mR 92, mI 2], [], (mup y2.1 92 1 0))) (fun y5 =>
        some (y5.1, y5.2)))
       else
        (bif decide (x4 < 0) then
         (Option.bind (srun (lyT Ln) (d, 157, 0, [mR 92, mI 2], [], (mup y2.1 92 1 0))) (fun y6 =>
         some (y6.1, y6.2)))
        else
         (bif minb x0 8 then
         (bif decide (0 < (mlcmp (mwrapL (x1 + x4)) ((mup y2.1 92 1 0) 94 (Int.toNat x0)))) then
          (Option.bind (srun (lyT Ln) (d, 157, 0, [mR 92, mI 2], [], (mup y2.1 92 1 0))) (fun y7 =>
          some (y7.1, y7.2)))
         else
          (bif minb x2 8 then
          (bif decide ((mlcmp (mwrapL (x3 + x4)) ((mup y2.1 92 1 0) 94 (Int.toNat x2))) ≤ 0) then
           (bif decide (x1 < x3) then
            srun (lyT Ln) ((d + 1), 161, 84, [mR 92, mI x0, mI x1, mI x2, mI x3, mI x4, mI 0, mI 0, mJ], [], (mup y2.1 92 1 0))
           else
            srun (lyT Ln) ((d + 1), 161, 84, [mR 92, mI x0, mI x1, mI x2, mI x3, mI x4, mI 1, mI 0, mJ], [], (mup y2.1 92 1 0)))
          else
           (Option.bind (srun (lyT Ln) (d, 157, 0, [mR 92, mI 2], [], (mup y2.1 92 1 0))) (fun y8 =>
           some (y8.1, y8.2))))
          else none))
         else none))))
     else
      (Option.bind (srun (lyT Ln) (d, 157, 0, [mR 92, mI 5], [], (mup y2.1 92 1 0))) (fun y9 =>
      some (y9.1, y9.2))))
     else none)
     else none)
    else
     (Option.bind (srun (lyT Ln) (d, 157, 0, [mR 92, mI 1], [], (mup y2.1 92 1 0))) (fun y10 =>
     some (y10.1, y10.2))))
    else none))
   else none)
  else
   some (y2.1, (-1000001)))))))) := by
  exact (srun_unr _ [84] 69 _).trans rfl
theorem b_M_copy_84 (Ln d : Nat) (σ : mmSt) (z1 z2 z3 z4 z5 z6 z7 : Int) (v8 : mmV) : srun (lyT Ln) ((d + 1), 161, 84, [mR 92, mI z1, mI z2, mI z3, mI z4, mI z5, mI z6, mI z7, v8], [], σ) =
 (bif decide (z5 ≤ z7) then
  some (σ, z5)
 else
  (bif decide (z6 = 0) then
   (bif minb (mwrap ((mwrap ((mwrap (40 * z1)) + z2)) + (mwrap ((mwrap (z5 - 1)) - z7)))) 320 then
   (bif minb (mwrap ((mwrap ((mwrap (40 * z3)) + z4)) + (mwrap ((mwrap (z5 - 1)) - z7)))) 320 then
   srun (lyT Ln) ((d + 1), 161, 84, [mR 92, mI z1, mI z2, mI z3, mI z4, mI z5, mI z6, mI (mwrap (z7 + 1)), mI (mwrap ((mwrap (z5 - 1)) - z7))], [], (mup σ 95 (Int.toNat (mwrap ((mwrap ((mwrap (40 * z3)) + z4)) + (mwrap ((mwrap (z5 - 1)) - z7))))) (σ 95 (Int.toNat (mwrap ((mwrap ((mwrap (40 * z1)) + z2)) + (mwrap ((mwrap (z5 - 1)) - z7))))))))
   else none)
   else none)
  else
   (bif minb (mwrap ((mwrap ((mwrap (40 * z1)) + z2)) + z7)) 320 then
   (bif minb (mwrap ((mwrap ((mwrap (40 * z3)) + z4)) + z7)) 320 then
   srun (lyT Ln) ((d + 1), 161, 84, [mR 92, mI z1, mI z2, mI z3, mI z4, mI z5, mI z6, mI (mwrap (z7 + 1)), mI z7], [], (mup σ 95 (Int.toNat (mwrap ((mwrap ((mwrap (40 * z3)) + z4)) + z7))) (σ 95 (Int.toNat (mwrap ((mwrap ((mwrap (40 * z1)) + z2)) + z7))))))
   else none)
   else none))) := by
  exact (srun_unr _ [84] 33 _).trans rfl
/-! GridQuarrelsModel.drop(I)I: method 162; stops [] -/
theorem b_M_drop (Ln d : Nat) (σ : mmSt) (x0 : Int) : srun (lyT Ln) ((d + 1), 162, 0, [mR 92, mI x0], [], σ) =
 (Option.bind (srun (lyT Ln) (d, 158, 0, [mI x0], [], (mup σ 92 0 0))) (fun y1 =>
 (bif decide (¬ y1.2 = 0) then
  (bif minb x0 8 then
  (bif decide (0 ≤ ((mup y1.1 92 1 0) 93 (Int.toNat x0))) then
   (bif minb x0 8 then
   (bif minb x0 8 then
   some ((mup (mup y1.1 92 1 0) 93 (Int.toNat x0) (-1)), ((mup (mup y1.1 92 1 0) 93 (Int.toNat x0) (-1)) 94 (Int.toNat x0)))
   else none)
   else none)
  else
   (Option.bind (srun (lyT Ln) (d, 157, 0, [mR 92, mI 1], [], (mup y1.1 92 1 0))) (fun y2 =>
   some (y2.1, y2.2))))
  else none)
 else
  some (y1.1, (-1000001))))) := by
  exact (srun_unr _ [] 24 _).trans rfl
/-! GridQuarrelsModel.feed(I)I: method 163; stops [] -/
theorem b_M_feed (Ln d : Nat) (σ : mmSt) (x0 : Int) : srun (lyT Ln) ((d + 1), 163, 0, [mR 92, mI x0], [], σ) =
 (Option.bind (srun (lyT Ln) (d, 156, 0, [mL x0, mJ, mL 0, mJ, mL 255, mJ], [], (mup σ 92 0 0))) (fun y1 =>
 (bif decide (¬ y1.2 = 0) then
  (bif decide (¬ (y1.1 92 11) = 120) then
   (bif minb (y1.1 92 11) 120 then
   some ((mup (mup y1.1 100 (Int.toNat (y1.1 92 11)) x0) 92 11 (mwrap (((mup y1.1 100 (Int.toNat (y1.1 92 11)) x0) 92 11) + 1))), ((mup (mup y1.1 100 (Int.toNat (y1.1 92 11)) x0) 92 11 (mwrap (((mup y1.1 100 (Int.toNat (y1.1 92 11)) x0) 92 11) + 1))) 92 11))
   else none)
  else
   some (y1.1, (-1000003)))
 else
  some (y1.1, (-1000001))))) := by
  exact (srun_unr _ [] 28 _).trans rfl
/-! GridQuarrelsModel.bad(I)V: method 164; stops [] -/
theorem b_M_bad (Ln d : Nat) (σ : mmSt) (x0 : Int) : srun (lyT Ln) ((d + 1), 164, 0, [mR 92, mI x0], [], σ) =
 (bif decide (¬ (σ 92 16) = 0) then
  some (σ, 0)
 else
  some ((mup (mup σ 92 16 x0) 92 17 ((mup σ 92 16 x0) 92 13)), 0)) := by
  exact (srun_unr _ [] 11 _).trans rfl
/-! GridQuarrelsModel.nextToken()V: method 165; stops [79] -/
set_option maxRecDepth 100000 in
theorem b_M_nextToken (Ln d : Nat) (σ : mmSt) : srun (lyT Ln) ((d + 1), 165, 0, [mR 92], [], σ) =
 (bif decide (((mup σ 92 13 (σ 92 12)) 92 11) ≤ ((mup σ 92 13 (σ 92 12)) 92 12)) then
  (bif decide (¬ ((mup (mup σ 92 13 (σ 92 12)) 92 15 (-1000000)) 92 12) = ((mup (mup σ 92 13 (σ 92 12)) 92 15 (-1000000)) 92 11)) then
   (Option.bind (srun (lyT Ln) (d, 156, 0, [mL ((mup (mup σ 92 13 (σ 92 12)) 92 15 (-1000000)) 92 15), mJ, mL 97, mJ, mL 122, mJ], [], (mup (mup σ 92 13 (σ 92 12)) 92 15 (-1000000)))) (fun y1 =>
   (bif decide (y1.2 = 0) then
    (Option.bind (srun (lyT Ln) (d, 156, 0, [mL (y1.1 92 15), mJ, mL 48, mJ, mL 57, mJ], [], y1.1)) (fun y2 =>
    (bif decide (y2.2 = 0) then
     (bif decide ((y2.1 92 15) = 44) then
      (bif decide (((mup y2.1 92 14 4) 92 11) ≤ ((mup y2.1 92 14 4) 92 12)) then
       (bif decide (¬ ((mup (mup y2.1 92 14 4) 92 12 (mwrap (((mup y2.1 92 14 4) 92 12) + 0))) 92 14) = 3) then
        some ((mup (mup y2.1 92 14 4) 92 12 (mwrap (((mup y2.1 92 14 4) 92 12) + 0))), 0)
       else
        srun (lyT Ln) ((d + 1), 165, 79, [mR 92], [], (mup (mup (mup y2.1 92 14 4) 92 12 (mwrap (((mup y2.1 92 14 4) 92 12) + 0))) 92 15 (mwrap (((mup (mup y2.1 92 14 4) 92 12 (mwrap (((mup y2.1 92 14 4) 92 12) + 0))) 92 15) - 48)))))
      else
       (bif decide (¬ ((mup (mup y2.1 92 14 4) 92 12 (mwrap (((mup y2.1 92 14 4) 92 12) + 1))) 92 14) = 3) then
        some ((mup (mup y2.1 92 14 4) 92 12 (mwrap (((mup y2.1 92 14 4) 92 12) + 1))), 0)
       else
        srun (lyT Ln) ((d + 1), 165, 79, [mR 92], [], (mup (mup (mup y2.1 92 14 4) 92 12 (mwrap (((mup y2.1 92 14 4) 92 12) + 1))) 92 15 (mwrap (((mup (mup y2.1 92 14 4) 92 12 (mwrap (((mup y2.1 92 14 4) 92 12) + 1))) 92 15) - 48))))))
     else
      (bif decide (¬ (y2.1 92 15) = 59) then
       (bif decide (((mup y2.1 92 14 0) 92 11) ≤ ((mup y2.1 92 14 0) 92 12)) then
        (bif decide (¬ ((mup (mup y2.1 92 14 0) 92 12 (mwrap (((mup y2.1 92 14 0) 92 12) + 0))) 92 14) = 3) then
         some ((mup (mup y2.1 92 14 0) 92 12 (mwrap (((mup y2.1 92 14 0) 92 12) + 0))), 0)
        else
         srun (lyT Ln) ((d + 1), 165, 79, [mR 92], [], (mup (mup (mup y2.1 92 14 0) 92 12 (mwrap (((mup y2.1 92 14 0) 92 12) + 0))) 92 15 (mwrap (((mup (mup y2.1 92 14 0) 92 12 (mwrap (((mup y2.1 92 14 0) 92 12) + 0))) 92 15) - 48)))))
       else
        (bif decide (¬ ((mup (mup y2.1 92 14 0) 92 12 (mwrap (((mup y2.1 92 14 0) 92 12) + 1))) 92 14) = 3) then
         some ((mup (mup y2.1 92 14 0) 92 12 (mwrap (((mup y2.1 92 14 0) 92 12) + 1))), 0)
        else
         srun (lyT Ln) ((d + 1), 165, 79, [mR 92], [], (mup (mup (mup y2.1 92 14 0) 92 12 (mwrap (((mup y2.1 92 14 0) 92 12) + 1))) 92 15 (mwrap (((mup (mup y2.1 92 14 0) 92 12 (mwrap (((mup y2.1 92 14 0) 92 12) + 1))) 92 15) - 48))))))
      else
       (bif decide (((mup y2.1 92 14 4) 92 11) ≤ ((mup y2.1 92 14 4) 92 12)) then
        (bif decide (¬ ((mup (mup y2.1 92 14 4) 92 12 (mwrap (((mup y2.1 92 14 4) 92 12) + 0))) 92 14) = 3) then
         some ((mup (mup y2.1 92 14 4) 92 12 (mwrap (((mup y2.1 92 14 4) 92 12) + 0))), 0)
        else
         srun (lyT Ln) ((d + 1), 165, 79, [mR 92], [], (mup (mup (mup y2.1 92 14 4) 92 12 (mwrap (((mup y2.1 92 14 4) 92 12) + 0))) 92 15 (mwrap (((mup (mup y2.1 92 14 4) 92 12 (mwrap (((mup y2.1 92 14 4) 92 12) + 0))) 92 15) - 48)))))
       else
        (bif decide (¬ ((mup (mup y2.1 92 14 4) 92 12 (mwrap (((mup y2.1 92 14 4) 92 12) + 1))) 92 14) = 3) then
         some ((mup (mup y2.1 92 14 4) 92 12 (mwrap (((mup y2.1 92 14 4) 92 12) + 1))), 0)
        else
         srun (lyT Ln) ((d + 1), 165, 79, [mR 92], [], (mup (mup (mup y2.1 92 14 4) 92 12 (mwrap (((mup y2.1 92 14 4) 92 12) + 1))) 92 15 (mwrap (((mup (mup y2.1 92 14 4) 92 12 (mwrap (((mup y2.1 92 14 4) 92 12) + 1))) 92 15) - 48))))))))
    else
     (bif decide (((mup y2.1 92 14 3) 92 11) ≤ ((mup y2.1 92 14 3) 92 12)) then
      (bif decide (¬ ((mup (mup y2.1 92 14 3) 92 12 (mwrap (((mup y2.1 92 14 3) 92 12) + 0))) 92 14) = 3) then
       some ((mup (mup y2.1 92 14 3) 92 12 (mwrap (((mup y2.1 92 14 3) 92 12) + 0))), 0)
      else
       srun (lyT Ln) ((d + 1), 165, 79, [mR 92], [], (mup (mup (mup y2.1 92 14 3) 92 12 (mwrap (((mup y2.1 92 14 3) 92 12) + 0))) 92 15 (mwrap (((mup (mup y2.1 92 14 3) 92 12 (mwrap (((mup y2.1 92 14 3) 92 12) + 0))) 92 15) - 48)))))
     else
      (bif decide (¬ ((mup (mup y2.1 92 14 3) 92 12 (mwrap (((mup y2.1 92 14 3) 92 12) + 1))) 92 14) = 3) then
       some ((mup (mup y2.1 92 14 3) 92 12 (mwrap (((mup y2.1 92 14 3) 92 12) + 1))), 0)
      else
       srun (lyT Ln) ((d + 1), 165, 79, [mR 92], [], (mup (mup (mup y2.1 92 14 3) 92 12 (mwrap (((mup y2.1 92 14 3) 92 12) + 1))) 92 15 (mwrap (((mup (mup y2.1 92 14 3) 92 12 (mwrap (((mup y2.1 92 14 3) 92 12) + 1))) 92 15) - 48)))))))))
   else
    (bif decide (((mup y1.1 92 14 2) 92 11) ≤ ((mup y1.1 92 14 2) 92 12)) then
     (bif decide (¬ ((mup (mup y1.1 92 14 2) 92 12 (mwrap (((mup y1.1 92 14 2) 92 12) + 0))) 92 14) = 3) then
      some ((mup (mup y1.1 92 14 2) 92 12 (mwrap (((mup y1.1 92 14 2) 92 12) + 0))), 0)
     else
      srun (lyT Ln) ((d + 1), 165, 79, [mR 92], [], (mup (mup (mup y1.1 92 14 2) 92 12 (mwrap (((mup y1.1 92 14 2) 92 12) + 0))) 92 15 (mwrap (((mup (mup y1.1 92 14 2) 92 12 (mwrap (((mup y1.1 92 14 2) 92 12) + 0))) 92 15) - 48)))))
    else
     (bif decide (¬ ((mup (mup y1.1 92 14 2) 92 12 (mwrap (((mup y1.1 92 14 2) 92 12) + 1))) 92 14) = 3) then
      some ((mup (mup y1.1 92 14 2) 92 12 (mwrap (((mup y1.1 92 14 2) 92 12) + 1))), 0)
     else
      srun (lyT Ln) ((d + 1), 165, 79, [mR 92], [], (mup (mup (mup y1.1 92 14 2) 92 12 (mwrap (((mup y1.1 92 14 2) 92 12) + 1))) 92 15 (mwrap (((mup (mup y1.1 92 14 2) 92 12 (mwrap (((mup y1.1 92 14 2) 92 12) + 1))) 92 15) - 48)))))))))
  else
   (bif decide (((mup (mup (mup σ 92 13 (σ 92 12)) 92 15 (-1000000)) 92 14 1) 92 11) ≤ ((mup (mup (mup σ 92 13 (σ 92 12)) 92 15 (-1000000)) 92 14 1) 92 12)) then
    (bif decide (¬ ((mup (mup (mup (mup σ 92 13 (σ 92 12)) 92 15 (-1000000)) 92 14 1) 92 12 (mwrap (((mup (mup (mup σ 92 13 (σ 92 12)) 92 15 (-1000000)) 92 14 1) 92 12) + 0))) 92 14) = 3) then
     some ((mup (mup (mup (mup σ 92 13 (σ 92 12)) 92 15 (-1000000)) 92 14 1) 92 12 (mwrap (((mup (mup (mup σ 92 13 (σ 92 12)) 92 15 (-1000000)) 92 14 1) 92 12) + 0))), 0)
    else
     srun (lyT Ln) ((d + 1), 165, 79, [mR 92], [], (mup (mup (mup (mup (mup σ 92 13 (σ 92 12)) 92 15 (-1000000)) 92 14 1) 92 12 (mwrap (((mup (mup (mup σ 92 13 (σ 92 12)) 92 15 (-1000000)) 92 14 1) 92 12) + 0))) 92 15 (mwrap (((mup (mup (mup (mup σ 92 13 (σ 92 12)) 92 15 (-1000000)) 92 14 1) 92 12 (mwrap (((mup (mup (mup σ 92 13 (σ 92 12)) 92 15 (-1000000)) 92 14 1) 92 12) + 0))) 92 15) - 48)))))
   else
    (bif decide (¬ ((mup (mup (mup (mup σ 92 13 (σ 92 12)) 92 15 (-1000000)) 92 14 1) 92 12 (mwrap (((mup (mup (mup σ 92 13 (σ 92 12)) 92 15 (-1000000)) 92 14 1) 92 12) + 1))) 92 14) = 3) then
     some ((mup (mup (mup (mup σ 92 13 (σ 92 12)) 92 15 (-1000000)) 92 14 1) 92 12 (mwrap (((mup (mup (mup σ 92 13 (σ 92 12)) 92 15 (-1000000)) 92 14 1) 92 12) + 1))), 0)
    else
     srun (lyT Ln) ((d + 1), 165, 79, [mR 92], [], (mup (mup (mup (mup (mup σ 92 13 (σ 92 12)) 92 15 (-1000000)) 92 14 1) 92 12 (mwrap (((mup (mup (mup σ 92 13 (σ 92 12)) 92 15 (-1000000)) 92 14 1) 92 12) + 1))) 92 15 (mwrap (((mup (mup (mup (mup σ 92 13 (σ 92 12)) 92 15 (-1000000)) 92 14 1) 92 12 (mwrap (((mup (mup (mup σ 92 13 (σ 92 12)) 92 15 (-1000000)) 92 14 1) 92 12) + 1))) 92 15) - 48)))))))
 else
  (bif minb ((mup σ 92 13 (σ 92 12)) 92 12) 120 then
  (bif decide (¬ ((mup (mup σ 92 13 (σ 92 12)) 92 15 ((mup σ 92 13 (σ 92 12)) 100 (Int.toNat ((mup σ 92 13 (σ 92 12)) 92 12)))) 92 12) = ((mup (mup σ 92 13 (σ 92 12)) 92 15 ((mup σ 92 13 (σ 92 12)) 100 (Int.toNat ((mup σ 92 13 (σ 92 12)) 92 12)))) 92 11)) then
   (Option.bind (srun (lyT Ln) (d, 156, 0, [mL ((mup (mup σ 92 13 (σ 92 12)) 92 15 ((mup σ 92 13 (σ 92 12)) 100 (Int.toNat ((mup σ 92 13 (σ 92 12)) 92 12)))) 92 15), mJ, mL 97, mJ, mL 122, mJ], [], (mup (mup σ 92 13 (σ 92 12)) 92 15 ((mup σ 92 13 (σ 92 12)) 100 (Int.toNat ((mup σ 92 13 (σ 92 12)) 92 12)))))) (fun y3 =>
   (bif decide (y3.2 = 0) then
    (Option.bind (srun (lyT Ln) (d, 156, 0, [mL (y3.1 92 15), mJ, mL 48, mJ, mL 57, mJ], [], y3.1)) (fun y4 =>
    (bif decide (y4.2 = 0) then
     (bif decide ((y4.1 92 15) = 44) then
      (bif decide (((mup y4.1 92 14 4) 92 11) ≤ ((mup y4.1 92 14 4) 92 12)) then
       (bif decide (¬ ((mup (mup y4.1 92 14 4) 92 12 (mwrap (((mup y4.1 92 14 4) 92 12) + 0))) 92 14) = 3) then
        some ((mup (mup y4.1 92 14 4) 92 12 (mwrap (((mup y4.1 92 14 4) 92 12) + 0))), 0)
       else
        srun (lyT Ln) ((d + 1), 165, 79, [mR 92], [], (mup (mup (mup y4.1 92 14 4) 92 12 (mwrap (((mup y4.1 92 14 4) 92 12) + 0))) 92 15 (mwrap (((mup (mup y4.1 92 14 4) 92 12 (mwrap (((mup y4.1 92 14 4) 92 12) + 0))) 92 15) - 48)))))
      else
       (bif decide (¬ ((mup (mup y4.1 92 14 4) 92 12 (mwrap (((mup y4.1 92 14 4) 92 12) + 1))) 92 14) = 3) then
        some ((mup (mup y4.1 92 14 4) 92 12 (mwrap (((mup y4.1 92 14 4) 92 12) + 1))), 0)
       else
        srun (lyT Ln) ((d + 1), 165, 79, [mR 92], [], (mup (mup (mup y4.1 92 14 4) 92 12 (mwrap (((mup y4.1 92 14 4) 92 12) + 1))) 92 15 (mwrap (((mup (mup y4.1 92 14 4) 92 12 (mwrap (((mup y4.1 92 14 4) 92 12) + 1))) 92 15) - 48))))))
     else
      (bif decide (¬ (y4.1 92 15) = 59) then
       (bif decide (((mup y4.1 92 14 0) 92 11) ≤ ((mup y4.1 92 14 0) 92 12)) then
        (bif decide (¬ ((mup (mup y4.1 92 14 0) 92 12 (mwrap (((mup y4.1 92 14 0) 92 12) + 0))) 92 14) = 3) then
         some ((mup (mup y4.1 92 14 0) 92 12 (mwrap (((mup y4.1 92 14 0) 92 12) + 0))), 0)
        else
         srun (lyT Ln) ((d + 1), 165, 79, [mR 92], [], (mup (mup (mup y4.1 92 14 0) 92 12 (mwrap (((mup y4.1 92 14 0) 92 12) + 0))) 92 15 (mwrap (((mup (mup y4.1 92 14 0) 92 12 (mwrap (((mup y4.1 92 14 0) 92 12) + 0))) 92 15) - 48)))))
       else
        (bif decide (¬ ((mup (mup y4.1 92 14 0) 92 12 (mwrap (((mup y4.1 92 14 0) 92 12) + 1))) 92 14) = 3) then
         some ((mup (mup y4.1 92 14 0) 92 12 (mwrap (((mup y4.1 92 14 0) 92 12) + 1))), 0)
        else
         srun (lyT Ln) ((d + 1), 165, 79, [mR 92], [], (mup (mup (mup y4.1 92 14 0) 92 12 (mwrap (((mup y4.1 92 14 0) 92 12) + 1))) 92 15 (mwrap (((mup (mup y4.1 92 14 0) 92 12 (mwrap (((mup y4.1 92 14 0) 92 12) + 1))) 92 15) - 48))))))
      else
       (bif decide (((mup y4.1 92 14 4) 92 11) ≤ ((mup y4.1 92 14 4) 92 12)) then
        (bif decide (¬ ((mup (mup y4.1 92 14 4) 92 12 (mwrap (((mup y4.1 92 14 4) 92 12) + 0))) 92 14) = 3) then
         some ((mup (mup y4.1 92 14 4) 92 12 (mwrap (((mup y4.1 92 14 4) 92 12) + 0))), 0)
        else
         srun (lyT Ln) ((d + 1), 165, 79, [mR 92], [], (mup (mup (mup y4.1 92 14 4) 92 12 (mwrap (((mup y4.1 92 14 4) 92 12) + 0))) 92 15 (mwrap (((mup (mup y4.1 92 14 4) 92 12 (mwrap (((mup y4.1 92 14 4) 92 12) + 0))) 92 15) - 48)))))
       else
        (bif decide (¬ ((mup (mup y4.1 92 14 4) 92 12 (mwrap (((mup y4.1 92 14 4) 92 12) + 1))) 92 14) = 3) then
         some ((mup (mup y4.1 92 14 4) 92 12 (mwrap (((mup y4.1 92 14 4) 92 12) + 1))), 0)
        else
         srun (lyT Ln) ((d + 1), 165, 79, [mR 92], [], (mup (mup (mup y4.1 92 14 4) 92 12 (mwrap (((mup y4.1 92 14 4) 92 12) + 1))) 92 15 (mwrap (((mup (mup y4.1 92 14 4) 92 12 (mwrap (((mup y4.1 92 14 4) 92 12) + 1))) 92 15) - 48))))))))
    else
     (bif decide (((mup y4.1 92 14 3) 92 11) ≤ ((mup y4.1 92 14 3) 92 12)) then
      (bif decide (¬ ((mup (mup y4.1 92 14 3) 92 12 (mwrap (((mup y4.1 92 14 3) 92 12) + 0))) 92 14) = 3) then
       some ((mup (mup y4.1 92 14 3) 92 12 (mwrap (((mup y4.1 92 14 3) 92 12) + 0))), 0)
      else
       srun (lyT Ln) ((d + 1), 165, 79, [mR 92], [], (mup (mup (mup y4.1 92 14 3) 92 12 (mwrap (((mup y4.1 92 14 3) 92 12) + 0))) 92 15 (mwrap (((mup (mup y4.1 92 14 3) 92 12 (mwrap (((mup y4.1 92 14 3) 92 12) + 0))) 92 15) - 48)))))
     else
      (bif decide (¬ ((mup (mup y4.1 92 14 3) 92 12 (mwrap (((mup y4.1 92 14 3) 92 12) + 1))) 92 14) = 3) then
       some ((mup (mup y4.1 92 14 3) 92 12 (mwrap (((mup y4.1 92 14 3) 92 12) + 1))), 0)
      else
       srun (lyT Ln) ((d + 1), 165, 79, [mR 92], [], (mup (mup (mup y4.1 92 14 3) 92 12 (mwrap (((mup y4.1 92 14 3) 92 12) + 1))) 92 15 (mwrap (((mup (mup y4.1 92 14 3) 92 12 (mwrap (((mup y4.1 92 14 3) 92 12) + 1))) 92 15) - 48)))))))))
   else
    (bif decide (((mup y3.1 92 14 2) 92 11) ≤ ((mup y3.1 92 14 2) 92 12)) then
     (bif decide (¬ ((mup (mup y3.1 92 14 2) 92 12 (mwrap (((mup y3.1 92 14 2) 92 12) + 0))) 92 14) = 3) then
      some ((mup (mup y3.1 92 14 2) 92 12 (mwrap (((mup y3.1 92 14 2) 92 12) + 0))), 0)
     else
      srun (lyT Ln) ((d + 1), 165, 79, [mR 92], [], (mup (mup (mup y3.1 92 14 2) 92 12 (mwrap (((mup y3.1 92 14 2) 92 12) + 0))) 92 15 (mwrap (((mup (mup y3.1 92 14 2) 92 12 (mwrap (((mup y3.1 92 14 2) 92 12) + 0))) 92 15) - 48)))))
    else
     (bif decide (¬ ((mup (mup y3.1 92 14 2) 92 12 (mwrap (((mup y3.1 92 14 2) 92 12) + 1))) 92 14) = 3) then
      some ((mup (mup y3.1 92 14 2) 92 12 (mwrap (((mup y3.1 92 14 2) 92 12) + 1))), 0)
     else
      srun (lyT Ln) ((d + 1), 165, 79, [mR 92], [], (mup (mup (mup y3.1 92 14 2) 92 12 (mwrap (((mup y3.1 92 14 2) 92 12) + 1))) 92 15 (mwrap (((mup (mup y3.1 92 14 2) 92 12 (mwrap (((mup y3.1 92 14 2) 92 12) + 1))) 92 15) - 48)))))))))
  else
   (bif decide (((mup (mup (mup σ 92 13 (σ 92 12)) 92 15 ((mup σ 92 13 (σ 92 12)) 100 (Int.toNat ((mup σ 92 13 (σ 92 12)) 92 12)))) 92 14 1) 92 11) ≤ ((mup (mup (mup σ 92 13 (σ 92 12)) 92 15 ((mup σ 92 13 (σ 92 12)) 100 (Int.toNat ((mup σ 92 13 (σ 92 12)) 92 12)))) 92 14 1) 92 12)) then
    (bif decide (¬ ((mup (mup (mup (mup σ 92 13 (σ 92 12)) 92 15 ((mup σ 92 13 (σ 92 12)) 100 (Int.toNat ((mup σ 92 13 (σ 92 12)) 92 12)))) 92 14 1) 92 12 (mwrap (((mup (mup (mup σ 92 13 (σ 92 12)) 92 15 ((mup σ 92 13 (σ 92 12)) 100 (Int.toNat ((mup σ 92 13 (σ 92 12)) 92 12)))) 92 14 1) 92 12) + 0))) 92 14) = 3) then
     some ((mup (mup (mup (mup σ 92 13 (σ 92 12)) 92 15 ((mup σ 92 13 (σ 92 12)) 100 (Int.toNat ((mup σ 92 13 (σ 92 12)) 92 12)))) 92 14 1) 92 12 (mwrap (((mup (mup (mup σ 92 13 (σ 92 12)) 92 15 ((mup σ 92 13 (σ 92 12)) 100 (Int.toNat ((mup σ 92 13 (σ 92 12)) 92 12)))) 92 14 1) 92 12) + 0))), 0)
    else
     srun (lyT Ln) ((d + 1), 165, 79, [mR 92], [], (mup (mup (mup (mup (mup σ 92 13 (σ 92 12)) 92 15 ((mup σ 92 13 (σ 92 12)) 100 (Int.toNat ((mup σ 92 13 (σ 92 12)) 92 12)))) 92 14 1) 92 12 (mwrap (((mup (mup (mup σ 92 13 (σ 92 12)) 92 15 ((mup σ 92 13 (σ 92 12)) 100 (Int.toNat ((mup σ 92 13 (σ 92 12)) 92 12)))) 92 14 1) 92 12) + 0))) 92 15 (mwrap (((mup (mup (mup (mup σ 92 13 (σ 92 12)) 92 15 ((mup σ 92 13 (σ 92 12)) 100 (Int.toNat ((mup σ 92 13 (σ 92 12)) 92 12)))) 92 14 1) 92 12 (mwrap (((mup (mup (mup σ 92 13 (σ 92 12)) 92 15 ((mup σ 92 13 (σ 92 12)) 100 (Int.toNat ((mup σ 92 13 (σ 92 12)) 92 12)))) 92 14 1) 92 12) + 0))) 92 15) - 48)))))
   else
    (bif decide (¬ ((mup (mup (mup (mup σ 92 13 (σ 92 12)) 92 15 ((mup σ 92 13 (σ 92 12)) 100 (Int.toNat ((mup σ 92 13 (σ 92 12)) 92 12)))) 92 14 1) 92 12 (mwrap (((mup (mup (mup σ 92 13 (σ 92 12)) 92 15 ((mup σ 92 13 (σ 92 12)) 100 (Int.toNat ((mup σ 92 13 (σ 92 12)) 92 12)))) 92 14 1) 92 12) + 1))) 92 14) = 3) then
     some ((mup (mup (mup (mup σ 92 13 (σ 92 12)) 92 15 ((mup σ 92 13 (σ 92 12)) 100 (Int.toNat ((mup σ 92 13 (σ 92 12)) 92 12)))) 92 14 1) 92 12 (mwrap (((mup (mup (mup σ 92 13 (σ 92 12)) 92 15 ((mup σ 92 13 (σ 92 12)) 100 (Int.toNat ((mup σ 92 13 (σ 92 12)) 92 12)))) 92 14 1) 92 12) + 1))), 0)
    else
     srun (lyT Ln) ((d + 1), 165, 79, [mR 92], [], (mup (mup (mup (mup (mup σ 92 13 (σ 92 12)) 92 15 ((mup σ 92 13 (σ 92 12)) 100 (Int.toNat ((mup σ 92 13 (σ 92 12)) 92 12)))) 92 14 1) 92 12 (mwrap (((mup (mup (mup σ 92 13 (σ 92 12)) 92 15 ((mup σ 92 13 (σ 92 12)) 100 (Int.toNat ((mup σ 92 13 (σ 92 12)) 92 12)))) 92 14 1) 92 12) + 1))) 92 15 (mwrap (((mup (mup (mup (mup σ 92 13 (σ 92 12)) 92 15 ((mup σ 92 13 (σ 92 12)) 100 (Int.toNat ((mup σ 92 13 (σ 92 12)) 92 12)))) 92 14 1) 92 12 (mwrap (((mup (mup (mup σ 92 13 (σ 92 12)) 92 15 ((mup σ 92 13 (σ 92 12)) 100 (Int.toNat ((mup σ 92 13 (σ 92 12)) 92 12)))) 92 14 1) 92 12) + 1))) 92 15) - 48)))))))
  else none)) := by
  exact (srun_unr _ [79] 70 _).trans rfl
theorem b_M_nextToken_79 (Ln d : Nat) (σ : mmSt) : srun (lyT Ln) ((d + 1), 165, 79, [mR 92], [], σ) =
 (bif decide ((σ 92 11) ≤ (σ 92 12)) then
  (bif decide ((mwrap ((σ 92 12) - (σ 92 13))) ≤ 2) then
   some ((mup σ 92 14 3), 0)
  else
   some ((mup σ 92 14 0), 0))
 else
  (bif minb (σ 92 12) 120 then
  (Option.bind (srun (lyT Ln) (d, 156, 0, [mL (σ 100 (Int.toNat (σ 92 12))), mJ, mL 48, mJ, mL 57, mJ], [], σ)) (fun y1 =>
  (bif decide (y1.2 = 0) then
   (bif decide ((mwrap ((y1.1 92 12) - (y1.1 92 13))) ≤ 2) then
    some ((mup y1.1 92 14 3), 0)
   else
    some ((mup y1.1 92 14 0), 0))
  else
   (bif decide (2 ≤ (mwrap ((y1.1 92 12) - (y1.1 92 13)))) then
    srun (lyT Ln) ((d + 1), 165, 79, [mR 92], [], (mup (mup y1.1 92 15 (y1.1 92 15)) 92 12 (mwrap (((mup y1.1 92 15 (y1.1 92 15)) 92 12) + 1))))
   else
    (bif minb (y1.1 92 12) 120 then
    srun (lyT Ln) ((d + 1), 165, 79, [mR 92], [], (mup (mup y1.1 92 15 (mwrap ((mwrap ((mwrap (10 * (y1.1 92 15))) + (y1.1 100 (Int.toNat (y1.1 92 12))))) - 48))) 92 12 (mwrap (((mup y1.1 92 15 (mwrap ((mwrap ((mwrap (10 * (y1.1 92 15))) + (y1.1 100 (Int.toNat (y1.1 92 12))))) - 48))) 92 12) + 1))))
    else none)))))
  else none)) := by
  exact (srun_unr _ [79] 44 _).trans rfl
/-! GridQuarrelsModel.must(Z)V: method 166; stops [] -/
theorem b_M_must (Ln d : Nat) (σ : mmSt) (x0 : Int) : srun (lyT Ln) ((d + 1), 166, 0, [mR 92, mI x0], [], σ) =
 (bif decide (¬ x0 = 0) then
  (bif decide (¬ (σ 92 16) = 0) then
   some (σ, 0)
  else
   (Option.bind (srun (lyT Ln) (d, 165, 0, [mR 92], [], σ)) (fun y1 =>
   some (y1.1, 0))))
 else
  (Option.bind (srun (lyT Ln) (d, 164, 0, [mR 92, mI 1], [], σ)) (fun y2 =>
  (bif decide (¬ (y2.1 92 16) = 0) then
   some (y2.1, 0)
  else
   (Option.bind (srun (lyT Ln) (d, 165, 0, [mR 92], [], y2.1)) (fun y3 =>
   some (y3.1, 0))))))) := by
  exact (srun_unr _ [] 11 _).trans rfl
/-! GridQuarrelsModel.isLetter(I)Z: method 167; stops [] -/
theorem b_M_isLetter (Ln d : Nat) (σ : mmSt) (x0 : Int) : srun (lyT Ln) ((d + 1), 167, 0, [mR 92, mI x0], [], σ) =
 (bif decide (¬ (σ 92 16) = 0) then
  some (σ, 0)
 else
  (bif decide (¬ (σ 92 14) = 2) then
   some (σ, 0)
  else
   (bif decide (¬ (σ 92 15) = x0) then
    some (σ, 0)
   else
    some (σ, 1)))) := by
  exact (srun_unr _ [] 14 _).trans rfl
/-! GridQuarrelsModel.number(II)I: method 168; stops [] -/
theorem b_M_number (Ln d : Nat) (σ : mmSt) (x0 x1 : Int) : srun (lyT Ln) ((d + 1), 168, 0, [mR 92, mI x0, mI x1, mJ], [], σ) =
 (bif decide (¬ (σ 92 16) = 0) then
  (bif decide (¬ (σ 92 16) = 0) then
   (bif decide (¬ (σ 92 16) = 0) then
    (Option.bind (srun (lyT Ln) (d, 166, 0, [mR 92, mI 1], [], σ)) (fun y1 =>
    some (y1.1, x0)))
   else
    (Option.bind (srun (lyT Ln) (d, 166, 0, [mR 92, mI 1], [], σ)) (fun y2 =>
    some (y2.1, (σ 92 15)))))
  else
   (Option.bind (srun (lyT Ln) (d, 156, 0, [mL (σ 92 15), mJ, mL x0, mJ, mL x1, mJ], [], σ)) (fun y3 =>
   (bif decide (¬ y3.2 = 0) then
    (bif decide (¬ (y3.1 92 16) = 0) then
     (Option.bind (srun (lyT Ln) (d, 166, 0, [mR 92, mI 1], [], y3.1)) (fun y4 =>
     some (y4.1, x0)))
    else
     (Option.bind (srun (lyT Ln) (d, 166, 0, [mR 92, mI 1], [], y3.1)) (fun y5 =>
     some (y5.1, (y3.1 92 15)))))
   else
    (Option.bind (srun (lyT Ln) (d, 164, 0, [mR 92, mI 2], [], y3.1)) (fun y6 =>
    (bif decide (¬ (y6.1 92 16) = 0) then
     (Option.bind (srun (lyT Ln) (d, 166, 0, [mR 92, mI 1], [], y6.1)) (fun y7 =>
     some (y7.1, x0)))
    else
     (Option.bind (srun (lyT Ln) (d, 166, 0, [mR 92, mI 1], [], y6.1)) (fun y8 =>
     some (y8.1, (y6.1 92 15)))))))))))
 else
  (bif decide ((σ 92 14) = 3) then
   (bif decide (¬ (σ 92 16) = 0) then
    (bif decide (¬ (σ 92 16) = 0) then
     (Option.bind (srun (lyT Ln) (d, 166, 0, [mR 92, mI 1], [], σ)) (fun y9 =>
     some (y9.1, x0)))
    else
     (Option.bind (srun (lyT Ln) (d, 166, 0, [mR 92, mI 1], [], σ)) (fun y10 =>
     some (y10.1, (σ 92 15)))))
   else
    (Option.bind (srun (lyT Ln) (d, 156, 0, [mL (σ 92 15), mJ, mL x0, mJ, mL x1, mJ], [], σ)) (fun y11 =>
    (bif decide (¬ y11.2 = 0) then
     (bif decide (¬ (y11.1 92 16) = 0) then
      (Option.bind (srun (lyT Ln) (d, 166, 0, [mR 92, mI 1], [], y11.1)) (fun y12 =>
      some (y12.1, x0)))
     else
      (Option.bind (srun (lyT Ln) (d, 166, 0, [mR 92, mI 1], [], y11.1)) (fun y13 =>
      some (y13.1, (y11.1 92 15)))))
    else
     (Option.bind (srun (lyT Ln) (d, 164, 0, [mR 92, mI 2], [], y11.1)) (fun y14 =>
     (bif decide (¬ (y14.1 92 16) = 0) then
      (Option.bind (srun (lyT Ln) (d, 166, 0, [mR 92, mI 1], [], y14.1)) (fun y15 =>
      some (y15.1, x0)))
     else
      (Option.bind (srun (lyT Ln) (d, 166, 0, [mR 92, mI 1], [], y14.1)) (fun y16 =>
      some (y16.1, (y14.1 92 15)))))))))))
  else
   (Option.bind (srun (lyT Ln) (d, 164, 0, [mR 92, mI 1], [], σ)) (fun y17 =>
   (bif decide (¬ (y17.1 92 16) = 0) then
    (bif decide (¬ (y17.1 92 16) = 0) then
     (Option.bind (srun (lyT Ln) (d, 166, 0, [mR 92, mI 1], [], y17.1)) (fun y18 =>
     some (y18.1, x0)))
    else
     (Option.bind (srun (lyT Ln) (d, 166, 0, [mR 92, mI 1], [], y17.1)) (fun y19 =>
     some (y19.1, (y17.1 92 15)))))
   else
    (Option.bind (srun (lyT Ln) (d, 156, 0, [mL (y17.1 92 15), mJ, mL x0, mJ, mL x1, mJ], [], y17.1)) (fun y20 =>
    (bif decide (¬ y20.2 = 0) then
     (bif decide (¬ (y20.1 92 16) = 0) then
      (Option.bind (srun (lyT Ln) (d, 166, 0, [mR 92, mI 1], [], y20.1)) (fun y21 =>
      some (y21.1, x0)))
     else
      (Option.bind (srun (lyT Ln) (d, 166, 0, [mR 92, mI 1], [], y20.1)) (fun y22 =>
      some (y22.1, (y20.1 92 15)))))
    else
     (Option.bind (srun (lyT Ln) (d, 164, 0, [mR 92, mI 2], [], y20.1)) (fun y23 =>
     (bif decide (¬ (y23.1 92 16) = 0) then
      (Option.bind (srun (lyT Ln) (d, 166, 0, [mR 92, mI 1], [], y23.1)) (fun y24 =>
      some (y24.1, x0)))
     else
      (Option.bind (srun (lyT Ln) (d, 166, 0, [mR 92, mI 1], [], y23.1)) (fun y25 =>
      some (y25.1, (y23.1 92 15))))))))))))))) := by
  exact (srun_unr _ [] 37 _).trans rfl
/-! GridQuarrelsModel.mustSign(I)V: method 169; stops [] -/
theorem b_M_mustSign (Ln d : Nat) (σ : mmSt) (x0 : Int) : srun (lyT Ln) ((d + 1), 169, 0, [mR 92, mI x0], [], σ) =
 (bif decide (¬ (σ 92 14) = 4) then
  (Option.bind (srun (lyT Ln) (d, 166, 0, [mR 92, mI 0], [], σ)) (fun y1 =>
  some (y1.1, 0)))
 else
  (bif decide (¬ (σ 92 15) = x0) then
   (Option.bind (srun (lyT Ln) (d, 166, 0, [mR 92, mI 0], [], σ)) (fun y2 =>
   some (y2.1, 0)))
  else
   (Option.bind (srun (lyT Ln) (d, 166, 0, [mR 92, mI 1], [], σ)) (fun y3 =>
   some (y3.1, 0))))) := by
  exact (srun_unr _ [] 13 _).trans rfl
/-! GridQuarrelsModel.begin()V: method 170; stops [] -/
theorem b_M_begin (Ln d : Nat) (σ : mmSt) : srun (lyT Ln) ((d + 1), 170, 0, [mR 92], [], σ) =
 (Option.bind (srun (lyT Ln) (d, 165, 0, [mR 92], [], (mup (mup σ 92 12 0) 92 16 0))) (fun y1 =>
 some (y1.1, 0))) := by
  exact (srun_unr _ [] 9 _).trans rfl
/-! GridQuarrelsModel.failed()Z: method 171; stops [] -/
theorem b_M_failed (Ln d : Nat) (σ : mmSt) : srun (lyT Ln) ((d + 1), 171, 0, [mR 92], [], σ) =
 (bif decide (¬ (σ 92 16) = 0) then
  (bif decide (((mup σ 92 11 0) 92 16) ≤ 0) then
   (bif decide (((mup (mup σ 92 11 0) 92 18 ((mup σ 92 11 0) 92 18)) 92 16) ≤ 0) then
    some ((mup (mup σ 92 11 0) 92 18 ((mup σ 92 11 0) 92 18)), 0)
   else
    some ((mup (mup σ 92 11 0) 92 18 ((mup σ 92 11 0) 92 18)), 1))
  else
   (bif decide (((mup (mup σ 92 11 0) 92 18 ((mup σ 92 11 0) 92 16)) 92 16) ≤ 0) then
    some ((mup (mup σ 92 11 0) 92 18 ((mup σ 92 11 0) 92 16)), 0)
   else
    some ((mup (mup σ 92 11 0) 92 18 ((mup σ 92 11 0) 92 16)), 1)))
 else
  (bif decide ((σ 92 14) = 1) then
   (bif decide (((mup σ 92 11 0) 92 16) ≤ 0) then
    (bif decide (((mup (mup σ 92 11 0) 92 18 ((mup σ 92 11 0) 92 18)) 92 16) ≤ 0) then
     some ((mup (mup σ 92 11 0) 92 18 ((mup σ 92 11 0) 92 18)), 0)
    else
     some ((mup (mup σ 92 11 0) 92 18 ((mup σ 92 11 0) 92 18)), 1))
   else
    (bif decide (((mup (mup σ 92 11 0) 92 18 ((mup σ 92 11 0) 92 16)) 92 16) ≤ 0) then
     some ((mup (mup σ 92 11 0) 92 18 ((mup σ 92 11 0) 92 16)), 0)
    else
     some ((mup (mup σ 92 11 0) 92 18 ((mup σ 92 11 0) 92 16)), 1)))
  else
   (Option.bind (srun (lyT Ln) (d, 164, 0, [mR 92, mI 1], [], σ)) (fun y1 =>
   (bif decide (((mup y1.1 92 11 0) 92 16) ≤ 0) then
    (bif decide (((mup (mup y1.1 92 11 0) 92 18 ((mup y1.1 92 11 0) 92 18)) 92 16) ≤ 0) then
     some ((mup (mup y1.1 92 11 0) 92 18 ((mup y1.1 92 11 0) 92 18)), 0)
    else
     some ((mup (mup y1.1 92 11 0) 92 18 ((mup y1.1 92 11 0) 92 18)), 1))
   else
    (bif decide (((mup (mup y1.1 92 11 0) 92 18 ((mup y1.1 92 11 0) 92 16)) 92 16) ≤ 0) then
     some ((mup (mup y1.1 92 11 0) 92 18 ((mup y1.1 92 11 0) 92 16)), 0)
    else
     some ((mup (mup y1.1 92 11 0) 92 18 ((mup y1.1 92 11 0) 92 16)), 1))))))) := by
  exact (srun_unr _ [] 27 _).trans rfl
/-! GridQuarrelsModel.fault()I: method 172; stops [] -/
theorem b_M_fault (Ln d : Nat) (σ : mmSt) : srun (lyT Ln) ((d + 1), 172, 0, [mR 92], [], σ) =
 some ((mup σ 92 0 0), ((mup σ 92 0 0) 92 18)) := by
  exact (srun_unr _ [] 6 _).trans rfl
/-! GridQuarrelsModel.kindBy(I)I: method 173; stops [] -/
theorem b_M_kindBy (Ln d : Nat) (σ : mmSt) (x0 : Int) : srun (lyT Ln) ((d + 1), 173, 0, [mI x0], [], σ) =
 (bif decide (¬ x0 = 112) then
  (bif decide (¬ x0 = 116) then
   (bif decide (¬ x0 = 107) then
    (bif decide (¬ x0 = 98) then
     (bif decide (¬ x0 = 109) then
      some (σ, (-1000000))
     else
      some (σ, 5))
    else
     some (σ, 4))
   else
    some (σ, 3))
  else
   some (σ, 2))
 else
  some (σ, 1)) := by
  exact (srun_unr _ [] 18 _).trans rfl
/-! GridQuarrelsModel.isSort()Z: method 174; stops [] -/
theorem b_M_isSort (Ln d : Nat) (σ : mmSt) : srun (lyT Ln) ((d + 1), 174, 0, [mR 92], [], σ) =
 (bif decide (¬ (σ 92 16) = 0) then
  some (σ, 0)
 else
  (bif decide (¬ (σ 92 14) = 2) then
   some (σ, 0)
  else
   (Option.bind (srun (lyT Ln) (d, 173, 0, [mI (σ 92 15)], [], σ)) (fun y1 =>
   (bif decide (y1.2 = (-1000000)) then
    some (y1.1, 0)
   else
    some (y1.1, 1)))))) := by
  exact (srun_unr _ [] 15 _).trans rfl
/-! GridQuarrelsModel.readRoad()V: method 175; stops [] -/
set_option maxRecDepth 100000 in
theorem b_M_readRoad (Ln d : Nat) (σ : mmSt) : srun (lyT Ln) ((d + 1), 175, 0, [mR 92, mJ, mJ, mJ, mJ], [], σ) =
 (bif decide (¬ (σ 97 1) = 7) then
  (Option.bind (srun (lyT Ln) (d, 167, 0, [mR 92, mI 114], [], σ)) (fun y1 =>
  (Option.bind (srun (lyT Ln) (d, 166, 0, [mR 92, mI y1.2], [], y1.1)) (fun y2 =>
  (Option.bind (srun (lyT Ln) (d, 168, 0, [mR 92, mI 0, mI (mwrap ((y2.1 97 0) - 1)), mJ], [], y2.1)) (fun y3 =>
  (Option.bind (srun (lyT Ln) (d, 169, 0, [mR 92, mI 44], [], y3.1)) (fun y4 =>
  (bif decide (¬ (y4.1 92 16) = 0) then
   (Option.bind (srun (lyT Ln) (d, 168, 0, [mR 92, mI 0, mI (mwrap ((y4.1 97 0) - 1)), mJ], [], y4.1)) (fun y5 =>
   (Option.bind (srun (lyT Ln) (d, 169, 0, [mR 92, mI 44], [], y5.1)) (fun y6 =>
   (Option.bind (srun (lyT Ln) (d, 168, 0, [mR 92, mI 0, mI 9, mJ], [], y6.1)) (fun y7 =>
   (Option.bind (srun (lyT Ln) (d, 169, 0, [mR 92, mI 59], [], y7.1)) (fun y8 =>
   (bif decide (¬ (y8.1 92 16) = 0) then
    some (y8.1, 0)
   else
    (bif minb (mwrap (11 + (mwrap (3 * (y8.1 97 1))))) 52 then
    (bif minb (mwrap ((mwrap (11 + (mwrap (3 * (y8.1 97 1))))) + 1)) 52 then
    (bif minb (mwrap ((mwrap (11 + (mwrap (3 * (y8.1 97 1))))) + 2)) 52 then
    some ((mup (mup (mup (mup y8.1 97 (Int.toNat (mwrap (11 + (mwrap (3 * (y8.1 97 1)))))) y3.2) 97 (Int.toNat (mwrap ((mwrap (11 + (mwrap (3 * (y8.1 97 1))))) + 1))) y5.2) 97 (Int.toNat (mwrap ((mwrap (11 + (mwrap (3 * (y8.1 97 1))))) + 2))) y7.2) 97 1 (mwrap (((mup (mup (mup y8.1 97 (Int.toNat (mwrap (11 + (mwrap (3 * (y8.1 97 1)))))) y3.2) 97 (Int.toNat (mwrap ((mwrap (11 + (mwrap (3 * (y8.1 97 1))))) + 1))) y5.2) 97 (Int.toNat (mwrap ((mwrap (11 + (mwrap (3 * (y8.1 97 1))))) + 2))) y7.2) 97 1) + 1))), 0)
    else none)
    else none)
    else none))))))))))
  else
   (bif decide (¬ (y4.1 92 14) = 3) then
    (Option.bind (srun (lyT Ln) (d, 168, 0, [mR 92, mI 0, mI (mwrap ((y4.1 97 0) - 1)), mJ], [], y4.1)) (fun y9 =>
    (Option.bind (srun (lyT Ln) (d, 169, 0, [mR 92, mI 44], [], y9.1)) (fun y10 =>
    (Option.bind (srun (lyT Ln) (d, 168, 0, [mR 92, mI 0, mI 9, mJ], [], y10.1)) (fun y11 =>
    (Option.bind (srun (lyT Ln) (d, 169, 0, [mR 92, mI 59], [], y11.1)) (fun y12 =>
    (bif decide (¬ (y12.1 92 16) = 0) then
     some (y12.1, 0)
    else
     (bif minb (mwrap (11 + (mwrap (3 * (y12.1 97 1))))) 52 then
     (bif minb (mwrap ((mwrap (11 + (mwrap (3 * (y12.1 97 1))))) + 1)) 52 then
     (bif minb (mwrap ((mwrap (11 + (mwrap (3 * (y12.1 97 1))))) + 2)) 52 then
     some ((mup (mup (mup (mup y12.1 97 (Int.toNat (mwrap (11 + (mwrap (3 * (y12.1 97 1)))))) y3.2) 97 (Int.toNat (mwrap ((mwrap (11 + (mwrap (3 * (y12.1 97 1))))) + 1))) y9.2) 97 (Int.toNat (mwrap ((mwrap (11 + (mwrap (3 * (y12.1 97 1))))) + 2))) y11.2) 97 1 (mwrap (((mup (mup (mup y12.1 97 (Int.toNat (mwrap (11 + (mwrap (3 * (y12.1 97 1)))))) y3.2) 97 (Int.toNat (mwrap ((mwrap (11 + (mwrap (3 * (y12.1 97 1))))) + 1))) y9.2) 97 (Int.toNat (mwrap ((mwrap (11 + (mwrap (3 * (y12.1 97 1))))) + 2))) y11.2) 97 1) + 1))), 0)
     else none)
     else none)
     else none))))))))))
   else
    (bif decide (¬ (y4.1 92 15) = y3.2) then
     (Option.bind (srun (lyT Ln) (d, 168, 0, [mR 92, mI 0, mI (mwrap ((y4.1 97 0) - 1)), mJ], [], y4.1)) (fun y13 =>
     (Option.bind (srun (lyT Ln) (d, 169, 0, [mR 92, mI 44], [], y13.1)) (fun y14 =>
     (Option.bind (srun (lyT Ln) (d, 168, 0, [mR 92, mI 0, mI 9, mJ], [], y14.1)) (fun y15 =>
     (Option.bind (srun (lyT Ln) (d, 169, 0, [mR 92, mI 59], [], y15.1)) (fun y16 =>
     (bif decide (¬ (y16.1 92 16) = 0) then
      some (y16.1, 0)
     else
      (bif minb (mwrap (11 + (mwrap (3 * (y16.1 97 1))))) 52 then
      (bif minb (mwrap ((mwrap (11 + (mwrap (3 * (y16.1 97 1))))) + 1)) 52 then
      (bif minb (mwrap ((mwrap (11 + (mwrap (3 * (y16.1 97 1))))) + 2)) 52 then
      some ((mup (mup (mup (mup y16.1 97 (Int.toNat (mwrap (11 + (mwrap (3 * (y16.1 97 1)))))) y3.2) 97 (Int.toNat (mwrap ((mwrap (11 + (mwrap (3 * (y16.1 97 1))))) + 1))) y13.2) 97 (Int.toNat (mwrap ((mwrap (11 + (mwrap (3 * (y16.1 97 1))))) + 2))) y15.2) 97 1 (mwrap (((mup (mup (mup y16.1 97 (Int.toNat (mwrap (11 + (mwrap (3 * (y16.1 97 1)))))) y3.2) 97 (Int.toNat (mwrap ((mwrap (11 + (mwrap (3 * (y16.1 97 1))))) + 1))) y13.2) 97 (Int.toNat (mwrap ((mwrap (11 + (mwrap (3 * (y16.1 97 1))))) + 2))) y15.2) 97 1) + 1))), 0)
      else none)
      else none)
      else none))))))))))
    else
     (Option.bind (srun (lyT Ln) (d, 164, 0, [mR 92, mI 2], [], y4.1)) (fun y17 =>
     (Option.bind (srun (lyT Ln) (d, 168, 0, [mR 92, mI 0, mI (mwrap ((y17.1 97 0) - 1)), mJ], [], y17.1)) (fun y18 =>
     (Option.bind (srun (lyT Ln) (d, 169, 0, [mR 92, mI 44], [], y18.1)) (fun y19 =>
     (Option.bind (srun (lyT Ln) (d, 168, 0, [mR 92, mI 0, mI 9, mJ], [], y19.1)) (fun y20 =>
     (Option.bind (srun (lyT Ln) (d, 169, 0, [mR 92, mI 59], [], y20.1)) (fun y21 =>
     (bif decide (¬ (y21.1 92 16) = 0) then
      some (y21.1, 0)
     else
      (bif minb (mwrap (11 + (mwrap (3 * (y21.1 97 1))))) 52 then
      (bif minb (mwrap ((mwrap (11 + (mwrap (3 * (y21.1 97 1))))) + 1)) 52 then
      (bif minb (mwrap ((mwrap (11 + (mwrap (3 * (y21.1 97 1))))) + 2)) 52 then
      some ((mup (mup (mup (mup y21.1 97 (Int.toNat (mwrap (11 + (mwrap (3 * (y21.1 97 1)))))) y3.2) 97 (Int.toNat (mwrap ((mwrap (11 + (mwrap (3 * (y21.1 97 1))))) + 1))) y18.2) 97 (Int.toNat (mwrap ((mwrap (11 + (mwrap (3 * (y21.1 97 1))))) + 2))) y20.2) 97 1 (mwrap (((mup (mup (mup y21.1 97 (Int.toNat (mwrap (11 + (mwrap (3 * (y21.1 97 1)))))) y3.2) 97 (Int.toNat (mwrap ((mwrap (11 + (mwrap (3 * (y21.1 97 1))))) + 1))) y18.2) 97 (Int.toNat (mwrap ((mwrap (11 + (mwrap (3 * (y21.1 97 1))))) + 2))) y20.2) 97 1) + 1))), 0)
      else none)
      else none)
      else none)))))))))))))))))))))))
 else
  (Option.bind (srun (lyT Ln) (d, 164, 0, [mR 92, mI 3], [], σ)) (fun y22 =>
  (Option.bind (srun (lyT Ln) (d, 167, 0, [mR 92, mI 114], [], y22.1)) (fun y23 =>
  (Option.bind (srun (lyT Ln) (d, 166, 0, [mR 92, mI y23.2], [], y23.1)) (fun y24 =>
  (Option.bind (srun (lyT Ln) (d, 168, 0, [mR 92, mI 0, mI (mwrap ((y24.1 97 0) - 1)), mJ], [], y24.1)) (fun y25 =>
  (Option.bind (srun (lyT Ln) (d, 169, 0, [mR 92, mI 44], [], y25.1)) (fun y26 =>
  (bif decide (¬ (y26.1 92 16) = 0) then
   (Option.bind (srun (lyT Ln) (d, 168, 0, [mR 92, mI 0, mI (mwrap ((y26.1 97 0) - 1)), mJ], [], y26.1)) (fun y27 =>
   (Option.bind (srun (lyT Ln) (d, 169, 0, [mR 92, mI 44], [], y27.1)) (fun y28 =>
   (Option.bind (srun (lyT Ln) (d, 168, 0, [mR 92, mI 0, mI 9, mJ], [], y28.1)) (fun y29 =>
   (Option.bind (srun (lyT Ln) (d, 169, 0, [mR 92, mI 59], [], y29.1)) (fun y30 =>
   (bif decide (¬ (y30.1 92 16) = 0) then
    some (y30.1, 0)
   else
    (bif minb (mwrap (11 + (mwrap (3 * (y30.1 97 1))))) 52 then
    (bif minb (mwrap ((mwrap (11 + (mwrap (3 * (y30.1 97 1))))) + 1)) 52 then
    (bif minb (mwrap ((mwrap (11 + (mwrap (3 * (y30.1 97 1))))) + 2)) 52 then
    some ((mup (mup (mup (mup y30.1 97 (Int.toNat (mwrap (11 + (mwrap (3 * (y30.1 97 1)))))) y25.2) 97 (Int.toNat (mwrap ((mwrap (11 + (mwrap (3 * (y30.1 97 1))))) + 1))) y27.2) 97 (Int.toNat (mwrap ((mwrap (11 + (mwrap (3 * (y30.1 97 1))))) + 2))) y29.2) 97 1 (mwrap (((mup (mup (mup y30.1 97 (Int.toNat (mwrap (11 + (mwrap (3 * (y30.1 97 1)))))) y25.2) 97 (Int.toNat (mwrap ((mwrap (11 + (mwrap (3 * (y30.1 97 1))))) + 1))) y27.2) 97 (Int.toNat (mwrap ((mwrap (11 + (mwrap (3 * (y30.1 97 1))))) + 2))) y29.2) 97 1) + 1))), 0)
    else none)
    else none)
    else none))))))))))
  else
   (bif decide (¬ (y26.1 92 14) = 3) then
    (Option.bind (srun (lyT Ln) (d, 168, 0, [mR 92, mI 0, mI (mwrap ((y26.1 97 0) - 1)), mJ], [], y26.1)) (fun y31 =>
    (Option.bind (srun (lyT Ln) (d, 169, 0, [mR 92, mI 44], [], y31.1)) (fun y32 =>
    (Option.bind (srun (lyT Ln) (d, 168, 0, [mR 92, mI 0, mI 9, mJ], [], y32.1)) (fun y33 =>
    (Option.bind (srun (lyT Ln) (d, 169, 0, [mR 92, mI 59], [], y33.1)) (fun y34 =>
    (bif decide (¬ (y34.1 92 16) = 0) then
     some (y34.1, 0)
    else
     (bif minb (mwrap (11 + (mwrap (3 * (y34.1 97 1))))) 52 then
     (bif minb (mwrap ((mwrap (11 + (mwrap (3 * (y34.1 97 1))))) + 1)) 52 then
     (bif minb (mwrap ((mwrap (11 + (mwrap (3 * (y34.1 97 1))))) + 2)) 52 then
     some ((mup (mup (mup (mup y34.1 97 (Int.toNat (mwrap (11 + (mwrap (3 * (y34.1 97 1)))))) y25.2) 97 (Int.toNat (mwrap ((mwrap (11 + (mwrap (3 * (y34.1 97 1))))) + 1))) y31.2) 97 (Int.toNat (mwrap ((mwrap (11 + (mwrap (3 * (y34.1 97 1))))) + 2))) y33.2) 97 1 (mwrap (((mup (mup (mup y34.1 97 (Int.toNat (mwrap (11 + (mwrap (3 * (y34.1 97 1)))))) y25.2) 97 (Int.toNat (mwrap ((mwrap (11 + (mwrap (3 * (y34.1 97 1))))) + 1))) y31.2) 97 (Int.toNat (mwrap ((mwrap (11 + (mwrap (3 * (y34.1 97 1))))) + 2))) y33.2) 97 1) + 1))), 0)
     else none)
     else none)
     else none))))))))))
   else
    (bif decide (¬ (y26.1 92 15) = y25.2) then
     (Option.bind (srun (lyT Ln) (d, 168, 0, [mR 92, mI 0, mI (mwrap ((y26.1 97 0) - 1)), mJ], [], y26.1)) (fun y35 =>
     (Option.bind (srun (lyT Ln) (d, 169, 0, [mR 92, mI 44], [], y35.1)) (fun y36 =>
     (Option.bind (srun (lyT Ln) (d, 168, 0, [mR 92, mI 0, mI 9, mJ], [], y36.1)) (fun y37 =>
     (Option.bind (srun (lyT Ln) (d, 169, 0, [mR 92, mI 59], [], y37.1)) (fun y38 =>
     (bif decide (¬ (y38.1 92 16) = 0) then
      some (y38.1, 0)
     else
      (bif minb (mwrap (11 + (mwrap (3 * (y38.1 97 1))))) 52 then
      (bif minb (mwrap ((mwrap (11 + (mwrap (3 * (y38.1 97 1))))) + 1)) 52 then
      (bif minb (mwrap ((mwrap (11 + (mwrap (3 * (y38.1 97 1))))) + 2)) 52 then
      some ((mup (mup (mup (mup y38.1 97 (Int.toNat (mwrap (11 + (mwrap (3 * (y38.1 97 1)))))) y25.2) 97 (Int.toNat (mwrap ((mwrap (11 + (mwrap (3 * (y38.1 97 1))))) + 1))) y35.2) 97 (Int.toNat (mwrap ((mwrap (11 + (mwrap (3 * (y38.1 97 1))))) + 2))) y37.2) 97 1 (mwrap (((mup (mup (mup y38.1 97 (Int.toNat (mwrap (11 + (mwrap (3 * (y38.1 97 1)))))) y25.2) 97 (Int.toNat (mwrap ((mwrap (11 + (mwrap (3 * (y38.1 97 1))))) + 1))) y35.2) 97 (Int.toNat (mwrap ((mwrap (11 + (mwrap (3 * (y38.1 97 1))))) + 2))) y37.2) 97 1) + 1))), 0)
      else none)
      else none)
      else none))))))))))
    else
     (Option.bind (srun (lyT Ln) (d, 164, 0, [mR 92, mI 2], [], y26.1)) (fun y39 =>
     (Option.bind (srun (lyT Ln) (d, 168, 0, [mR 92, mI 0, mI (mwrap ((y39.1 97 0) - 1)), mJ], [], y39.1)) (fun y40 =>
     (Option.bind (srun (lyT Ln) (d, 169, 0, [mR 92, mI 44], [], y40.1)) (fun y41 =>
     (Option.bind (srun (lyT Ln) (d, 168, 0, [mR 92, mI 0, mI 9, mJ], [], y41.1)) (fun y42 =>
     (Option.bind (srun (lyT Ln) (d, 169, 0, [mR 92, mI 59], [], y42.1)) (fun y43 =>
     (bif decide (¬ (y43.1 92 16) = 0) then
      some (y43.1, 0)
     else
      (bif minb (mwrap (11 + (mwrap (3 * (y43.1 97 1))))) 52 then
      (bif minb (mwrap ((mwrap (11 + (mwrap (3 * (y43.1 97 1))))) + 1)) 52 then
      (bif minb (mwrap ((mwrap (11 + (mwrap (3 * (y43.1 97 1))))) + 2)) 52 then
      some ((mup (mup (mup (mup y43.1 97 (Int.toNat (mwrap (11 + (mwrap (3 * (y43.1 97 1)))))) y25.2) 97 (Int.toNat (mwrap ((mwrap (11 + (mwrap (3 * (y43.1 97 1))))) + 1))) y40.2) 97 (Int.toNat (mwrap ((mwrap (11 + (mwrap (3 * (y43.1 97 1))))) + 2))) y42.2) 97 1 (mwrap (((mup (mup (mup y43.1 97 (Int.toNat (mwrap (11 + (mwrap (3 * (y43.1 97 1)))))) y25.2) 97 (Int.toNat (mwrap ((mwrap (11 + (mwrap (3 * (y43.1 97 1))))) + 1))) y40.2) 97 (Int.toNat (mwrap ((mwrap (11 + (mwrap (3 * (y43.1 97 1))))) + 2))) y42.2) 97 1) + 1))), 0)
      else none)
      else none)
      else none)))))))))))))))))))))))))) := by
  exact (srun_unr _ [] 102 _).trans rfl
/-! GridQuarrelsModel.readQuarrel()V: method 176; stops [] -/
set_option maxRecDepth 100000 in
theorem b_M_readQuarrel (Ln d : Nat) (σ : mmSt) : srun (lyT Ln) ((d + 1), 176, 0, [mR 92, mJ, mJ, mJ, mJ, mJ], [], σ) =
 (Option.bind (srun (lyT Ln) (d, 173, 0, [mI (σ 92 15)], [], σ)) (fun y1 =>
 (bif decide (¬ (y1.1 97 2) = 5) then
  (Option.bind (srun (lyT Ln) (d, 166, 0, [mR 92, mI 1], [], y1.1)) (fun y2 =>
  (Option.bind (srun (lyT Ln) (d, 168, 0, [mR 92, mI 0, mI (mwrap ((y2.1 97 0) - 1)), mJ], [], y2.1)) (fun y3 =>
  (Option.bind (srun (lyT Ln) (d, 169, 0, [mR 92, mI 44], [], y3.1)) (fun y4 =>
  (Option.bind (srun (lyT Ln) (d, 168, 0, [mR 92, mI 1, mI 9, mJ], [], y4.1)) (fun y5 =>
  (Option.bind (srun (lyT Ln) (d, 169, 0, [mR 92, mI 44], [], y5.1)) (fun y6 =>
  (Option.bind (srun (lyT Ln) (d, 168, 0, [mR 92, mI 0, mI (mwrap ((y6.1 97 0) - 1)), mJ], [], y6.1)) (fun y7 =>
  (Option.bind (srun (lyT Ln) (d, 169, 0, [mR 92, mI 59], [], y7.1)) (fun y8 =>
  (bif decide (¬ (y8.1 92 16) = 0) then
   some (y8.1, 0)
  else
   (bif minb (mwrap (32 + (mwrap (4 * (y8.1 97 2))))) 52 then
   (bif minb (mwrap ((mwrap (32 + (mwrap (4 * (y8.1 97 2))))) + 1)) 52 then
   (bif minb (mwrap ((mwrap (32 + (mwrap (4 * (y8.1 97 2))))) + 2)) 52 then
   (bif minb (mwrap ((mwrap (32 + (mwrap (4 * (y8.1 97 2))))) + 3)) 52 then
   some ((mup (mup (mup (mup (mup y8.1 97 (Int.toNat (mwrap (32 + (mwrap (4 * (y8.1 97 2)))))) y1.2) 97 (Int.toNat (mwrap ((mwrap (32 + (mwrap (4 * (y8.1 97 2))))) + 1))) y3.2) 97 (Int.toNat (mwrap ((mwrap (32 + (mwrap (4 * (y8.1 97 2))))) + 2))) y5.2) 97 (Int.toNat (mwrap ((mwrap (32 + (mwrap (4 * (y8.1 97 2))))) + 3))) y7.2) 97 2 (mwrap (((mup (mup (mup (mup y8.1 97 (Int.toNat (mwrap (32 + (mwrap (4 * (y8.1 97 2)))))) y1.2) 97 (Int.toNat (mwrap ((mwrap (32 + (mwrap (4 * (y8.1 97 2))))) + 1))) y3.2) 97 (Int.toNat (mwrap ((mwrap (32 + (mwrap (4 * (y8.1 97 2))))) + 2))) y5.2) 97 (Int.toNat (mwrap ((mwrap (32 + (mwrap (4 * (y8.1 97 2))))) + 3))) y7.2) 97 2) + 1))), 0)
   else none)
   else none)
   else none)
   else none))))))))))))))))
 else
  (Option.bind (srun (lyT Ln) (d, 164, 0, [mR 92, mI 3], [], y1.1)) (fun y9 =>
  (Option.bind (srun (lyT Ln) (d, 166, 0, [mR 92, mI 1], [], y9.1)) (fun y10 =>
  (Option.bind (srun (lyT Ln) (d, 168, 0, [mR 92, mI 0, mI (mwrap ((y10.1 97 0) - 1)), mJ], [], y10.1)) (fun y11 =>
  (Option.bind (srun (lyT Ln) (d, 169, 0, [mR 92, mI 44], [], y11.1)) (fun y12 =>
  (Option.bind (srun (lyT Ln) (d, 168, 0, [mR 92, mI 1, mI 9, mJ], [], y12.1)) (fun y13 =>
  (Option.bind (srun (lyT Ln) (d, 169, 0, [mR 92, mI 44], [], y13.1)) (fun y14 =>
  (Option.bind (srun (lyT Ln) (d, 168, 0, [mR 92, mI 0, mI (mwrap ((y14.1 97 0) - 1)), mJ], [], y14.1)) (fun y15 =>
  (Option.bind (srun (lyT Ln) (d, 169, 0, [mR 92, mI 59], [], y15.1)) (fun y16 =>
  (bif decide (¬ (y16.1 92 16) = 0) then
   some (y16.1, 0)
  else
   (bif minb (mwrap (32 + (mwrap (4 * (y16.1 97 2))))) 52 then
   (bif minb (mwrap ((mwrap (32 + (mwrap (4 * (y16.1 97 2))))) + 1)) 52 then
   (bif minb (mwrap ((mwrap (32 + (mwrap (4 * (y16.1 97 2))))) + 2)) 52 then
   (bif minb (mwrap ((mwrap (32 + (mwrap (4 * (y16.1 97 2))))) + 3)) 52 then
   some ((mup (mup (mup (mup (mup y16.1 97 (Int.toNat (mwrap (32 + (mwrap (4 * (y16.1 97 2)))))) y1.2) 97 (Int.toNat (mwrap ((mwrap (32 + (mwrap (4 * (y16.1 97 2))))) + 1))) y11.2) 97 (Int.toNat (mwrap ((mwrap (32 + (mwrap (4 * (y16.1 97 2))))) + 2))) y13.2) 97 (Int.toNat (mwrap ((mwrap (32 + (mwrap (4 * (y16.1 97 2))))) + 3))) y15.2) 97 2 (mwrap (((mup (mup (mup (mup y16.1 97 (Int.toNat (mwrap (32 + (mwrap (4 * (y16.1 97 2)))))) y1.2) 97 (Int.toNat (mwrap ((mwrap (32 + (mwrap (4 * (y16.1 97 2))))) + 1))) y11.2) 97 (Int.toNat (mwrap ((mwrap (32 + (mwrap (4 * (y16.1 97 2))))) + 2))) y13.2) 97 (Int.toNat (mwrap ((mwrap (32 + (mwrap (4 * (y16.1 97 2))))) + 3))) y15.2) 97 2) + 1))), 0)
   else none)
   else none)
   else none)
   else none))))))))))))))))))))) := by
  exact (srun_unr _ [] 97 _).trans rfl
/-! GridQuarrelsModel.county()I: method 177; stops [7, 43, 70, 83, 102] -/
theorem b_M_county (Ln d : Nat) (σ : mmSt) : srun (lyT Ln) ((d + 1), 177, 0, [mR 92, mJ, mJ], [], σ) =
 (Option.bind (srun (lyT Ln) (d, 170, 0, [mR 92], [], (mup σ 92 0 0))) (fun y1 =>
 srun (lyT Ln) ((d + 1), 177, 7, [mR 92, mI 0, mJ], [], y1.1))) := by
  exact (srun_unr _ [7, 43, 70, 83, 102] 7 _).trans rfl
theorem b_M_county_7 (Ln d : Nat) (σ : mmSt) (z1 : Int) : srun (lyT Ln) ((d + 1), 177, 7, [mR 92, mI z1, mJ], [], σ) =
 (bif decide (52 ≤ z1) then
  (Option.bind (srun (lyT Ln) (d, 167, 0, [mR 92, mI 99], [], σ)) (fun y1 =>
  (Option.bind (srun (lyT Ln) (d, 166, 0, [mR 92, mI y1.2], [], y1.1)) (fun y2 =>
  (Option.bind (srun (lyT Ln) (d, 168, 0, [mR 92, mI 2, mI 7, mJ], [], y2.1)) (fun y3 =>
  (Option.bind (srun (lyT Ln) (d, 169, 0, [mR 92, mI 44], [], (mup y3.1 97 0 y3.2))) (fun y4 =>
  (Option.bind (srun (lyT Ln) (d, 168, 0, [mR 92, mI 0, mI 9, mJ], [], y4.1)) (fun y5 =>
  (Option.bind (srun (lyT Ln) (d, 169, 0, [mR 92, mI 59], [], y5.1)) (fun y6 =>
  srun (lyT Ln) ((d + 1), 177, 43, [mR 92, mI y5.2, mI 0], [], y6.1)))))))))))))
 else
  (bif minb z1 52 then
  srun (lyT Ln) ((d + 1), 177, 7, [mR 92, mI (mwrap (z1 + 1)), mJ], [], (mup σ 97 (Int.toNat z1) 0))
  else none)) := by
  exact (srun_unr _ [7, 43, 70, 83, 102] 29 _).trans rfl
theorem b_M_county_43 (Ln d : Nat) (σ : mmSt) (z1 z2 : Int) : srun (lyT Ln) ((d + 1), 177, 43, [mR 92, mI z1, mI z2], [], σ) =
 (bif decide (7 ≤ z2) then
  (Option.bind (srun (lyT Ln) (d, 167, 0, [mR 92, mI 114], [], σ)) (fun y1 =>
  (bif decide (¬ y1.2 = 0) then
   srun (lyT Ln) ((d + 1), 177, 70, [mR 92, mI z1, mI z2], [], y1.1)
  else
   (Option.bind (srun (lyT Ln) (d, 164, 0, [mR 92, mI 1], [], y1.1)) (fun y2 =>
   srun (lyT Ln) ((d + 1), 177, 70, [mR 92, mI z1, mI z2], [], y2.1))))))
 else
  (bif decide ((σ 97 0) ≤ z2) then
   (bif minb (mwrap (4 + z2)) 52 then
   srun (lyT Ln) ((d + 1), 177, 43, [mR 92, mI z1, mI (mwrap (z2 + 1))], [], (mup σ 97 (Int.toNat (mwrap (4 + z2))) 0))
   else none)
  else
   (bif minb (mwrap (4 + z2)) 52 then
   srun (lyT Ln) ((d + 1), 177, 43, [mR 92, mI z1, mI (mwrap (z2 + 1))], [], (mup σ 97 (Int.toNat (mwrap (4 + z2))) z1))
   else none))) := by
  exact (srun_unr _ [7, 43, 70, 83, 102] 19 _).trans rfl
theorem b_M_county_70 (Ln d : Nat) (σ : mmSt) (z1 z2 : Int) : srun (lyT Ln) ((d + 1), 177, 70, [mR 92, mI z1, mI z2], [], σ) =
 (Option.bind (srun (lyT Ln) (d, 167, 0, [mR 92, mI 114], [], σ)) (fun y1 =>
 (bif decide (y1.2 = 0) then
  (Option.bind (srun (lyT Ln) (d, 174, 0, [mR 92], [], y1.1)) (fun y2 =>
  (bif decide (¬ y2.2 = 0) then
   srun (lyT Ln) ((d + 1), 177, 83, [mR 92, mI z1, mI z2], [], y2.1)
  else
   (Option.bind (srun (lyT Ln) (d, 164, 0, [mR 92, mI 1], [], y2.1)) (fun y3 =>
   srun (lyT Ln) ((d + 1), 177, 83, [mR 92, mI z1, mI z2], [], y3.1))))))
 else
  (Option.bind (srun (lyT Ln) (d, 175, 0, [mR 92, mJ, mJ, mJ, mJ], [], y1.1)) (fun y4 =>
  srun (lyT Ln) ((d + 1), 177, 70, [mR 92, mI z1, mI z2], [], y4.1)))))) := by
  exact (srun_unr _ [7, 43, 70, 83, 102] 10 _).trans rfl
theorem b_M_county_83 (Ln d : Nat) (σ : mmSt) (z1 z2 : Int) : srun (lyT Ln) ((d + 1), 177, 83, [mR 92, mI z1, mI z2], [], σ) =
 (Option.bind (srun (lyT Ln) (d, 174, 0, [mR 92], [], σ)) (fun y1 =>
 (bif decide (y1.2 = 0) then
  (Option.bind (srun (lyT Ln) (d, 171, 0, [mR 92], [], y1.1)) (fun y2 =>
  (bif decide (y2.2 = 0) then
   srun (lyT Ln) ((d + 1), 177, 102, [mR 92, mI z1, mI 0], [], (mup y2.1 92 9 0))
  else
   some (y2.1, (mwrap ((-1000100) - (y2.1 92 17)))))))
 else
  (Option.bind (srun (lyT Ln) (d, 176, 0, [mR 92, mJ, mJ, mJ, mJ, mJ], [], y1.1)) (fun y3 =>
  srun (lyT Ln) ((d + 1), 177, 83, [mR 92, mI z1, mI z2], [], y3.1)))))) := by
  exact (srun_unr _ [7, 43, 70, 83, 102] 11 _).trans rfl
theorem b_M_county_102 (Ln d : Nat) (σ : mmSt) (z1 z2 : Int) : srun (lyT Ln) ((d + 1), 177, 102, [mR 92, mI z1, mI z2], [], σ) =
 (bif decide (52 ≤ z2) then
  some (σ, (σ 96 2))
 else
  (bif minb z2 52 then
  (bif minb z2 52 then
  srun (lyT Ln) ((d + 1), 177, 102, [mR 92, mI z1, mI (mwrap (z2 + 1))], [], (mup σ 96 (Int.toNat z2) (σ 97 (Int.toNat z2))))
  else none)
  else none)) := by
  exact (srun_unr _ [7, 43, 70, 83, 102] 13 _).trans rfl
/-! GridQuarrelsModel.isThere()Z: method 178; stops [] -/
theorem b_M_isThere (Ln d : Nat) (σ : mmSt) : srun (lyT Ln) ((d + 1), 178, 0, [mR 92], [], σ) =
 (bif decide ((σ 96 0) ≤ 0) then
  some (σ, 0)
 else
  some (σ, 1)) := by
  exact (srun_unr _ [] 8 _).trans rfl
/-! GridQuarrelsModel.isParish(I)Z: method 179; stops [] -/
theorem b_M_isParish (Ln d : Nat) (σ : mmSt) (x0 : Int) : srun (lyT Ln) ((d + 1), 179, 0, [mR 92, mI x0], [], σ) =
 (Option.bind (srun (lyT Ln) (d, 156, 0, [mL x0, mJ, mL 0, mJ, mL (mwrap ((σ 96 0) - 1)), mJ], [], σ)) (fun y1 =>
 (bif decide (0 ≤ y1.2) && decide (y1.2 ≤ 1) then some (y1.1, y1.2) else none))) := by
  exact (srun_unr _ [] 12 _).trans rfl
/-! GridQuarrelsModel.isRoad(I)Z: method 180; stops [] -/
theorem b_M_isRoad (Ln d : Nat) (σ : mmSt) (x0 : Int) : srun (lyT Ln) ((d + 1), 180, 0, [mR 92, mI x0], [], σ) =
 (Option.bind (srun (lyT Ln) (d, 156, 0, [mL x0, mJ, mL 0, mJ, mL (mwrap ((σ 96 1) - 1)), mJ], [], σ)) (fun y1 =>
 (bif decide (0 ≤ y1.2) && decide (y1.2 ≤ 1) then some (y1.1, y1.2) else none))) := by
  exact (srun_unr _ [] 12 _).trans rfl
/-! GridQuarrelsModel.isQuarrel(I)Z: method 181; stops [] -/
theorem b_M_isQuarrel (Ln d : Nat) (σ : mmSt) (x0 : Int) : srun (lyT Ln) ((d + 1), 181, 0, [mR 92, mI x0], [], σ) =
 (Option.bind (srun (lyT Ln) (d, 156, 0, [mL x0, mJ, mL 0, mJ, mL (mwrap ((σ 96 2) - 1)), mJ], [], σ)) (fun y1 =>
 (bif decide (0 ≤ y1.2) && decide (y1.2 ≤ 1) then some (y1.1, y1.2) else none))) := by
  exact (srun_unr _ [] 12 _).trans rfl
/-! GridQuarrelsModel.bits(I)I: method 182; stops [4] -/
theorem b_M_bits (Ln d : Nat) (σ : mmSt) (x0 : Int) : srun (lyT Ln) ((d + 1), 182, 0, [mI x0, mJ, mJ], [], σ) =
 srun (lyT Ln) ((d + 1), 182, 4, [mI x0, mI 0, mI 0], [], σ) := by
  exact (srun_unr _ [4] 4 _).trans rfl
theorem b_M_bits_4 (Ln d : Nat) (σ : mmSt) (z0 z1 z2 : Int) : srun (lyT Ln) ((d + 1), 182, 4, [mI z0, mI z1, mI z2], [], σ) =
 (bif decide (7 ≤ z2) then
  some (σ, z1)
 else
  srun (lyT Ln) ((d + 1), 182, 4, [mI z0, mI (mwrap (z1 + (mand (mshr z0 z2) 1))), mI (mwrap (z2 + 1))], [], σ)) := by
  exact (srun_unr _ [4] 13 _).trans rfl
/-! GridQuarrelsModel.has(II)Z: method 183; stops [] -/
theorem b_M_has (Ln d : Nat) (σ : mmSt) (x0 x1 : Int) : srun (lyT Ln) ((d + 1), 183, 0, [mI x0, mI x1], [], σ) =
 (bif decide (¬ (mand (mshr x0 x1) 1) = 1) then
  some (σ, 0)
 else
  some (σ, 1)) := by
  exact (srun_unr _ [] 10 _).trans rfl
/-! GridQuarrelsModel.of([III)I: method 184; stops [] -/
theorem b_M_of (Ln d : Nat) (σ : mmSt) (x1 x2 : Int) (r : Nat) (hr : mrow r) : srun (lyT Ln) ((d + 1), 184, 0, [mR r, mI x1, mI x2], [], σ) =
 (bif minb (mwrap ((mwrap (32 + (mwrap (4 * x1)))) + x2)) 52 then
 some (σ, (σ r (Int.toNat (mwrap ((mwrap (32 + (mwrap (4 * x1)))) + x2)))))
 else none) := by
  rcases hr with rfl | rfl <;> exact (srun_unr _ [] 10 _).trans rfl
/-! GridQuarrelsModel.its([III)I: method 185; stops [] -/
theorem b_M_its (Ln d : Nat) (σ : mmSt) (x1 x2 : Int) (r : Nat) (hr : mrow r) : srun (lyT Ln) ((d + 1), 185, 0, [mR r, mI x1, mI x2], [], σ) =
 (bif minb (mwrap ((mwrap (11 + (mwrap (3 * x1)))) + x2)) 52 then
 some (σ, (σ r (Int.toNat (mwrap ((mwrap (11 + (mwrap (3 * x1)))) + x2)))))
 else none) := by
  rcases hr with rfl | rfl <;> exact (srun_unr _ [] 10 _).trans rfl
/-! GridQuarrelsModel.isAlive([II)Z: method 186; stops [] -/
theorem b_M_isAlive (Ln d : Nat) (σ : mmSt) (x1 : Int) (r : Nat) (hr : mrow r) : srun (lyT Ln) ((d + 1), 186, 0, [mR r, mI x1], [], σ) =
 (Option.bind (srun (lyT Ln) (d, 184, 0, [mR r, mI x1, mI 2], [], σ)) (fun y1 =>
 (bif decide (y1.2 ≤ 0) then
  some (y1.1, 0)
 else
  some (y1.1, 1)))) := by
  rcases hr with rfl | rfl <;> exact (srun_unr _ [] 8 _).trans rfl
/-! GridQuarrelsModel.isIn([III)Z: method 187; stops [] -/
theorem b_M_isIn (Ln d : Nat) (σ : mmSt) (x1 x2 : Int) (r : Nat) (hr : mrow r) : srun (lyT Ln) ((d + 1), 187, 0, [mR r, mI x1, mI x2], [], σ) =
 (Option.bind (srun (lyT Ln) (d, 186, 0, [mR r, mI x1], [], σ)) (fun y1 =>
 (bif decide (y1.2 = 0) then
  some (y1.1, 0)
 else
  (Option.bind (srun (lyT Ln) (d, 184, 0, [mR r, mI x1, mI 1], [], y1.1)) (fun y2 =>
  (bif decide (¬ y2.2 = x2) then
   some (y2.1, 0)
  else
   some (y2.1, 1))))))) := by
  rcases hr with rfl | rfl <;> exact (srun_unr _ [] 13 _).trans rfl
/-! GridQuarrelsModel.crosses([III)Z: method 188; stops [] -/
theorem b_M_crosses (Ln d : Nat) (σ : mmSt) (x1 x2 : Int) (r : Nat) (hr : mrow r) : srun (lyT Ln) ((d + 1), 188, 0, [mR r, mI x1, mI x2, mJ, mJ], [], σ) =
 (Option.bind (srun (lyT Ln) (d, 185, 0, [mR r, mI x2, mI 2], [], σ)) (fun y1 =>
 (Option.bind (srun (lyT Ln) (d, 184, 0, [mR r, mI x1, mI 2], [], y1.1)) (fun y2 =>
 (Option.bind (srun (lyT Ln) (d, 184, 0, [mR r, mI x1, mI 0], [], y2.1)) (fun y3 =>
 (bif decide (y3.2 = 2) then
 (bif decide ((mwrap (y2.2 + 3)) ≤ y1.2) then
   some (y3.1, 0)
  else
   some (y3.1, 1))
 else
 (bif decide (y3.2 = 3) then
 (bif decide (¬ y1.2 = 0) then
   some (y3.1, 0)
  else
   some (y3.1, 1))
 else
 (bif decide (y2.2 ≤ y1.2) then
  some (y3.1, 0)
 else
  some (y3.1, 1)))))))))) := by
  rcases hr with rfl | rfl <;> exact (srun_unr _ [] 23 _).trans rfl
/-! GridQuarrelsModel.beyond([III)I: method 189; stops [] -/
theorem b_M_beyond (Ln d : Nat) (σ : mmSt) (x1 x2 : Int) (r : Nat) (hr : mrow r) : srun (lyT Ln) ((d + 1), 189, 0, [mR r, mI x1, mI x2], [], σ) =
 (Option.bind (srun (lyT Ln) (d, 185, 0, [mR r, mI x1, mI 0], [], σ)) (fun y1 =>
 (bif decide (¬ y1.2 = x2) then
  (Option.bind (srun (lyT Ln) (d, 185, 0, [mR r, mI x1, mI 1], [], y1.1)) (fun y2 =>
  (bif decide (¬ y2.2 = x2) then
   some (y2.1, (-1000000))
  else
   (Option.bind (srun (lyT Ln) (d, 185, 0, [mR r, mI x1, mI 0], [], y2.1)) (fun y3 =>
   some (y3.1, y3.2))))))
 else
  (Option.bind (srun (lyT Ln) (d, 185, 0, [mR r, mI x1, mI 1], [], y1.1)) (fun y4 =>
  some (y4.1, y4.2)))))) := by
  rcases hr with rfl | rfl <;> exact (srun_unr _ [] 18 _).trans rfl
/-! GridQuarrelsModel.goes([II)I: method 190; stops [27] -/
theorem b_M_goes (Ln d : Nat) (σ : mmSt) (x1 : Int) (r : Nat) (hr : mrow r) : srun (lyT Ln) ((d + 1), 190, 0, [mR r, mI x1, mJ, mJ, mJ, mJ], [], σ) =
 (Option.bind (srun (lyT Ln) (d, 184, 0, [mR r, mI x1, mI 1], [], σ)) (fun y1 =>
 (Option.bind (srun (lyT Ln) (d, 186, 0, [mR r, mI x1], [], y1.1)) (fun y2 =>
 (bif decide (y2.2 = 0) then
  some (y2.1, y1.2)
 else
  (Option.bind (srun (lyT Ln) (d, 184, 0, [mR r, mI x1, mI 0], [], y2.1)) (fun y3 =>
  (bif decide (y3.2 < 4) then
   srun (lyT Ln) ((d + 1), 190, 27, [mR r, mI x1, mI y1.2, mI y1.2, mI 0, mJ], [], y3.1)
  else
   (bif minb (mwrap (4 + y1.2)) 52 then
   (bif decide ((y3.1 r (Int.toNat (mwrap (4 + y1.2)))) ≤ 0) then
    srun (lyT Ln) ((d + 1), 190, 27, [mR r, mI x1, mI y1.2, mI y1.2, mI 0, mJ], [], y3.1)
   else
    some (y3.1, y1.2))
   else none))))))))) := by
  rcases hr with rfl | rfl <;> exact (srun_unr _ [27] 25 _).trans rfl
theorem b_M_goes_27 (Ln d : Nat) (σ : mmSt) (z1 z2 z3 z4 : Int) (v5 : mmV) (r : Nat) (hr : mrow r) : srun (lyT Ln) ((d + 1), 190, 27, [mR r, mI z1, mI z2, mI z3, mI z4, v5], [], σ) =
 (bif decide ((σ r 1) ≤ z4) then
  some (σ, z3)
 else
  (Option.bind (srun (lyT Ln) (d, 189, 0, [mR r, mI z4, mI z2], [], σ)) (fun y1 =>
  (bif decide (y1.2 = (-1000000)) then
   srun (lyT Ln) ((d + 1), 190, 27, [mR r, mI z1, mI z2, mI z3, mI (mwrap (z4 + 1)), mI y1.2], [], y1.1)
  else
   (Option.bind (srun (lyT Ln) (d, 188, 0, [mR r, mI z1, mI z4, mJ, mJ], [], y1.1)) (fun y2 =>
   (bif decide (y2.2 = 0) then
    srun (lyT Ln) ((d + 1), 190, 27, [mR r, mI z1, mI z2, mI z3, mI (mwrap (z4 + 1)), mI y1.2], [], y2.1)
   else
    (bif minb (mwrap (4 + y1.2)) 52 then
    (bif minb (mwrap (4 + z3)) 52 then
    (bif decide ((y2.1 r (Int.toNat (mwrap (4 + y1.2)))) ≤ (y2.1 r (Int.toNat (mwrap (4 + z3))))) then
     srun (lyT Ln) ((d + 1), 190, 27, [mR r, mI z1, mI z2, mI z3, mI (mwrap (z4 + 1)), mI y1.2], [], y2.1)
    else
     srun (lyT Ln) ((d + 1), 190, 27, [mR r, mI z1, mI z2, mI y1.2, mI (mwrap (z4 + 1)), mI y1.2], [], y2.1))
    else none)
    else none)))))))) := by
  rcases hr with rfl | rfl <;> exact (srun_unr _ [27] 34 _).trans rfl
/-! GridQuarrelsModel.year([I)V: method 191; stops [11] -/
theorem b_M_year (Ln d : Nat) (σ : mmSt) (r : Nat) (hr : mrow r) : srun (lyT Ln) ((d + 1), 191, 0, [mR 92, mR r, mJ, mJ, mJ], [], σ) =
 srun (lyT Ln) ((d + 1), 191, 11, [mR 92, mR r, mI 0, mJ, mJ], [], (mup (mup (mup σ 92 19 0) 92 20 0) 92 21 0)) := by
  rcases hr with rfl | rfl <;> exact (srun_unr _ [11] 11 _).trans rfl
set_option maxRecDepth 100000 in
theorem b_M_year_11 (Ln d : Nat) (σ : mmSt) (z2 : Int) (v3 v4 : mmV) (r : Nat) (hr : mrow r) : srun (lyT Ln) ((d + 1), 191, 11, [mR 92, mR r, mI z2, v3, v4], [], σ) =
 (bif decide ((σ r 2) ≤ z2) then
  some ((mup σ r 3 (mwrap ((σ r 3) + 1))), 0)
 else
  (Option.bind (srun (lyT Ln) (d, 186, 0, [mR r, mI z2], [], σ)) (fun y1 =>
  (bif decide (y1.2 = 0) then
   srun (lyT Ln) ((d + 1), 191, 11, [mR 92, mR r, mI (mwrap (z2 + 1)), v3, v4], [], y1.1)
  else
   (Option.bind (srun (lyT Ln) (d, 190, 0, [mR r, mI z2, mJ, mJ, mJ, mJ], [], y1.1)) (fun y2 =>
   (Option.bind (srun (lyT Ln) (d, 184, 0, [mR r, mI z2, mI 1], [], y2.1)) (fun y3 =>
   (bif decide (y2.2 = y3.2) then
    (bif minb (mwrap ((mwrap (32 + (mwrap (4 * z2)))) + 1)) 52 then
    (Option.bind (srun (lyT Ln) (d, 184, 0, [mR r, mI z2, mI 2], [], (mup (mup y3.1 92 21 (mwrap ((y2.1 92 21) + 0))) r (Int.toNat (mwrap ((mwrap (32 + (mwrap (4 * z2)))) + 1))) y2.2))) (fun y4 =>
    (bif minb (mwrap (4 + y2.2)) 52 then
    (bif decide ((y4.1 r (Int.toNat (mwrap (4 + y2.2)))) ≤ 0) then
     (Option.bind (srun (lyT Ln) (d, 184, 0, [mR r, mI z2, mI 0], [], y4.1)) (fun y5 =>
     (bif decide (¬ y5.2 = 5) then
      (bif minb (mwrap ((mwrap (32 + (mwrap (4 * z2)))) + 2)) 52 then
      srun (lyT Ln) ((d + 1), 191, 11, [mR 92, mR r, mI (mwrap (z2 + 1)), mI y2.2, mI (mwrap (y4.2 - 1))], [], (mup y5.1 r (Int.toNat (mwrap ((mwrap (32 + (mwrap (4 * z2)))) + 2))) (mwrap (y4.2 - 1))))
      else none)
     else
      (bif decide (¬ y4.2 = 1) then
       (bif minb (mwrap ((mwrap (32 + (mwrap (4 * z2)))) + 2)) 52 then
       srun (lyT Ln) ((d + 1), 191, 11, [mR 92, mR r, mI (mwrap (z2 + 1)), mI y2.2, mI (mwrap (y4.2 - 1))], [], (mup y5.1 r (Int.toNat (mwrap ((mwrap (32 + (mwrap (4 * z2)))) + 2))) (mwrap (y4.2 - 1))))
       else none)
      else
       (bif minb (mwrap ((mwrap (32 + (mwrap (4 * z2)))) + 2)) 52 then
       srun (lyT Ln) ((d + 1), 191, 11, [mR 92, mR r, mI (mwrap (z2 + 1)), mI y2.2, mI (mwrap (y4.2 - 0))], [], (mup y5.1 r (Int.toNat (mwrap ((mwrap (32 + (mwrap (4 * z2)))) + 2))) (mwrap (y4.2 - 0))))
       else none)))))
    else
     (bif minb (mwrap (4 + y2.2)) 52 then
     (bif minb (mwrap (4 + y2.2)) 52 then
     (Option.bind (srun (lyT Ln) (d, 184, 0, [mR r, mI z2, mI 0], [], (mup (mup (mup y4.1 r (Int.toNat (mwrap (4 + y2.2))) (mwrap ((y4.1 r (Int.toNat (mwrap (4 + y2.2)))) - 1))) 92 19 (mor ((mup y4.1 r (Int.toNat (mwrap (4 + y2.2))) (mwrap ((y4.1 r (Int.toNat (mwrap (4 + y2.2)))) - 1))) 92 19) (mshl 1 z2))) 92 20 (mor ((mup (mup y4.1 r (Int.toNat (mwrap (4 + y2.2))) (mwrap ((y4.1 r (Int.toNat (mwrap (4 + y2.2)))) - 1))) 92 19 (mor ((mup y4.1 r (Int.toNat (mwrap (4 + y2.2))) (mwrap ((y4.1 r (Int.toNat (mwrap (4 + y2.2)))) - 1))) 92 19) (mshl 1 z2))) 92 20) (mshl 1 y2.2))))) (fun y6 =>
     (bif decide (¬ y6.2 = 3) then
      (bif decide ((mwrap (y4.2 + 1)) ≤ 9) then
       (bif minb (mwrap ((mwrap (32 + (mwrap (4 * z2)))) + 2)) 52 then
       srun (lyT Ln) ((d + 1), 191, 11, [mR 92, mR r, mI (mwrap (z2 + 1)), mI y2.2, mI (mwrap (y4.2 + 1))], [], (mup y6.1 r (Int.toNat (mwrap ((mwrap (32 + (mwrap (4 * z2)))) + 2))) (mwrap (y4.2 + 1))))
       else none)
      else
       (bif minb (mwrap ((mwrap (32 + (mwrap (4 * z2)))) + 2)) 52 then
       srun (lyT Ln) ((d + 1), 191, 11, [mR 92, mR r, mI (mwrap (z2 + 1)), mI y2.2, mI 9], [], (mup y6.1 r (Int.toNat (mwrap ((mwrap (32 + (mwrap (4 * z2)))) + 2))) 9))
       else none))
     else
      (bif decide ((mwrap (y4.2 + 2)) ≤ 9) then
       (bif minb (mwrap ((mwrap (32 + (mwrap (4 * z2)))) + 2)) 52 then
       srun (lyT Ln) ((d + 1), 191, 11, [mR 92, mR r, mI (mwrap (z2 + 1)), mI y2.2, mI (mwrap (y4.2 + 2))], [], (mup y6.1 r (Int.toNat (mwrap ((mwrap (32 + (mwrap (4 * z2)))) + 2))) (mwrap (y4.2 + 2))))
       else none)
      else
       (bif minb (mwrap ((mwrap (32 + (mwrap (4 * z2)))) + 2)) 52 then
       srun (lyT Ln) ((d + 1), 191, 11, [mR 92, mR r, mI (mwrap (z2 + 1)), mI y2.2, mI 9], [], (mup y6.1 r (Int.toNat (mwrap ((mwrap (32 + (mwrap (4 * z2)))) + 2))) 9))
       else none)))))
     else none)
     else none))
    else none)))
    else none)
   else
    (bif minb (mwrap ((mwrap (32 + (mwrap (4 * z2)))) + 1)) 52 then
    (Option.bind (srun (lyT Ln) (d, 184, 0, [mR r, mI z2, mI 2], [], (mup (mup y3.1 92 21 (mwrap ((y2.1 92 21) + 1))) r (Int.toNat (mwrap ((mwrap (32 + (mwrap (4 * z2)))) + 1))) y2.2))) (fun y7 =>
    (bif minb (mwrap (4 + y2.2)) 52 then
    (bif decide ((y7.1 r (Int.toNat (mwrap (4 + y2.2)))) ≤ 0) then
     (Option.bind (srun (lyT Ln) (d, 184, 0, [mR r, mI z2, mI 0], [], y7.1)) (fun y8 =>
     (bif decide (¬ y8.2 = 5) then
      (bif minb (mwrap ((mwrap (32 + (mwrap (4 * z2)))) + 2)) 52 then
      srun (lyT Ln) ((d + 1), 191, 11, [mR 92, mR r, mI (mwrap (z2 + 1)), mI y2.2, mI (mwrap (y7.2 - 1))], [], (mup y8.1 r (Int.toNat (mwrap ((mwrap (32 + (mwrap (4 * z2)))) + 2))) (mwrap (y7.2 - 1))))
      else none)
     else
      (bif decide (¬ y7.2 = 1) then
       (bif minb (mwrap ((mwrap (32 + (mwrap (4 * z2)))) + 2)) 52 then
       srun (lyT Ln) ((d + 1), 191, 11, [mR 92, mR r, mI (mwrap (z2 + 1)), mI y2.2, mI (mwrap (y7.2 - 1))], [], (mup y8.1 r (Int.toNat (mwrap ((mwrap (32 + (mwrap (4 * z2)))) + 2))) (mwrap (y7.2 - 1))))
       else none)
      else
       (bif minb (mwrap ((mwrap (32 + (mwrap (4 * z2)))) + 2)) 52 then
       srun (lyT Ln) ((d + 1), 191, 11, [mR 92, mR r, mI (mwrap (z2 + 1)), mI y2.2, mI (mwrap (y7.2 - 0))], [], (mup y8.1 r (Int.toNat (mwrap ((mwrap (32 + (mwrap (4 * z2)))) + 2))) (mwrap (y7.2 - 0))))
       else none)))))
    else
     (bif minb (mwrap (4 + y2.2)) 52 then
     (bif minb (mwrap (4 + y2.2)) 52 then
     (Option.bind (srun (lyT Ln) (d, 184, 0, [mR r, mI z2, mI 0], [], (mup (mup (mup y7.1 r (Int.toNat (mwrap (4 + y2.2))) (mwrap ((y7.1 r (Int.toNat (mwrap (4 + y2.2)))) - 1))) 92 19 (mor ((mup y7.1 r (Int.toNat (mwrap (4 + y2.2))) (mwrap ((y7.1 r (Int.toNat (mwrap (4 + y2.2)))) - 1))) 92 19) (mshl 1 z2))) 92 20 (mor ((mup (mup y7.1 r (Int.toNat (mwrap (4 + y2.2))) (mwrap ((y7.1 r (Int.toNat (mwrap (4 + y2.2)))) - 1))) 92 19 (mor ((mup y7.1 r (Int.toNat (mwrap (4 + y2.2))) (mwrap ((y7.1 r (Int.toNat (mwrap (4 + y2.2)))) - 1))) 92 19) (mshl 1 z2))) 92 20) (mshl 1 y2.2))))) (fun y9 =>
     (bif decide (¬ y9.2 = 3) then
      (bif decide ((mwrap (y7.2 + 1)) ≤ 9) then
       (bif minb (mwrap ((mwrap (32 + (mwrap (4 * z2)))) + 2)) 52 then
       srun (lyT Ln) ((d + 1), 191, 11, [mR 92, mR r, mI (mwrap (z2 + 1)), mI y2.2, mI (mwrap (y7.2 + 1))], [], (mup y9.1 r (Int.toNat (mwrap ((mwrap (32 + (mwrap (4 * z2)))) + 2))) (mwrap (y7.2 + 1))))
       else none)
      else
       (bif minb (mwrap ((mwrap (32 + (mwrap (4 * z2)))) + 2)) 52 then
       srun (lyT Ln) ((d + 1), 191, 11, [mR 92, mR r, mI (mwrap (z2 + 1)), mI y2.2, mI 9], [], (mup y9.1 r (Int.toNat (mwrap ((mwrap (32 + (mwrap (4 * z2)))) + 2))) 9))
       else none))
     else
      (bif decide ((mwrap (y7.2 + 2)) ≤ 9) then
       (bif minb (mwrap ((mwrap (32 + (mwrap (4 * z2)))) + 2)) 52 then
       srun (lyT Ln) ((d + 1), 191, 11, [mR 92, mR r, mI (mwrap (z2 + 1)), mI y2.2, mI (mwrap (y7.2 + 2))], [], (mup y9.1 r (Int.toNat (mwrap ((mwrap (32 + (mwrap (4 * z2)))) + 2))) (mwrap (y7.2 + 2))))
       else none)
      else
       (bif minb (mwrap ((mwrap (32 + (mwrap (4 * z2)))) + 2)) 52 then
       srun (lyT Ln) ((d + 1), 191, 11, [mR 92, mR r, mI (mwrap (z2 + 1)), mI y2.2, mI 9], [], (mup y9.1 r (Int.toNat (mwrap ((mwrap (32 + (mwrap (4 * z2)))) + 2))) 9))
       else none)))))
     else none)
     else none))
    else none)))
    else none)))))))))) := by
  rcases hr with rfl | rfl <;> exact (srun_unr _ [11] 102 _).trans rfl
/-! GridQuarrelsModel.yearsOf([II)V: method 192; stops [2] -/
theorem b_M_yearsOf (Ln d : Nat) (σ : mmSt) (x1 : Int) (r : Nat) (hr : mrow r) : srun (lyT Ln) ((d + 1), 192, 0, [mR 92, mR r, mI x1, mJ], [], σ) =
 srun (lyT Ln) ((d + 1), 192, 2, [mR 92, mR r, mI x1, mI 0], [], σ) := by
  rcases hr with rfl | rfl <;> exact (srun_unr _ [2] 2 _).trans rfl
theorem b_M_yearsOf_2 (Ln d : Nat) (σ : mmSt) (z2 z3 : Int) (r : Nat) (hr : mrow r) : srun (lyT Ln) ((d + 1), 192, 2, [mR 92, mR r, mI z2, mI z3], [], σ) =
 (bif decide (z2 ≤ z3) then
  some (σ, 0)
 else
  (Option.bind (srun (lyT Ln) (d, 191, 0, [mR 92, mR r, mJ, mJ, mJ], [], σ)) (fun y1 =>
  srun (lyT Ln) ((d + 1), 192, 2, [mR 92, mR r, mI z2, mI (mwrap (z3 + 1))], [], y1.1)))) := by
  rcases hr with rfl | rfl <;> exact (srun_unr _ [2] 8 _).trans rfl
/-! GridQuarrelsModel.layThen()V: method 193; stops [2] -/
theorem b_M_layThen (Ln d : Nat) (σ : mmSt) : srun (lyT Ln) ((d + 1), 193, 0, [mR 92, mJ], [], σ) =
 srun (lyT Ln) ((d + 1), 193, 2, [mR 92, mI 0], [], σ) := by
  exact (srun_unr _ [2] 2 _).trans rfl
theorem b_M_layThen_2 (Ln d : Nat) (σ : mmSt) (z1 : Int) : srun (lyT Ln) ((d + 1), 193, 2, [mR 92, mI z1], [], σ) =
 (bif decide (52 ≤ z1) then
  some (σ, 0)
 else
  (bif minb z1 52 then
  (bif minb z1 52 then
  srun (lyT Ln) ((d + 1), 193, 2, [mR 92, mI (mwrap (z1 + 1))], [], (mup σ 98 (Int.toNat z1) (σ 96 (Int.toNat z1))))
  else none)
  else none)) := by
  exact (srun_unr _ [2] 13 _).trans rfl
/-! GridQuarrelsModel.alive([I)I: method 194; stops [4] -/
theorem b_M_alive (Ln d : Nat) (σ : mmSt) (r : Nat) (hr : mrow r) : srun (lyT Ln) ((d + 1), 194, 0, [mR r, mJ, mJ], [], σ) =
 srun (lyT Ln) ((d + 1), 194, 4, [mR r, mI 0, mI 0], [], σ) := by
  rcases hr with rfl | rfl <;> exact (srun_unr _ [4] 4 _).trans rfl
theorem b_M_alive_4 (Ln d : Nat) (σ : mmSt) (z1 z2 : Int) (r : Nat) (hr : mrow r) : srun (lyT Ln) ((d + 1), 194, 4, [mR r, mI z1, mI z2], [], σ) =
 (bif decide ((σ r 2) ≤ z2) then
  some (σ, z1)
 else
  (Option.bind (srun (lyT Ln) (d, 186, 0, [mR r, mI z2], [], σ)) (fun y1 =>
  (bif decide (y1.2 = 0) then
   srun (lyT Ln) ((d + 1), 194, 4, [mR r, mI (mwrap (z1 + 0)), mI (mwrap (z2 + 1))], [], y1.1)
  else
   srun (lyT Ln) ((d + 1), 194, 4, [mR r, mI (mwrap (z1 + 1)), mI (mwrap (z2 + 1))], [], y1.1))))) := by
  rcases hr with rfl | rfl <;> exact (srun_unr _ [4] 16 _).trans rfl
/-! GridQuarrelsModel.puts([III)V: method 195; stops [] -/
theorem b_M_puts (Ln d : Nat) (σ : mmSt) (x1 x2 : Int) (r : Nat) (hr : mrow r) : srun (lyT Ln) ((d + 1), 195, 0, [mR r, mI x1, mI x2, mJ], [], σ) =
 (bif minb (mwrap (4 + x1)) 52 then
 (bif decide ((mwrap ((σ r (Int.toNat (mwrap (4 + x1)))) + x2)) ≤ 99) then
  (bif minb (mwrap (4 + x1)) 52 then
  some ((mup σ r (Int.toNat (mwrap (4 + x1))) (mwrap ((σ r (Int.toNat (mwrap (4 + x1)))) + x2))), 0)
  else none)
 else
  (bif minb (mwrap (4 + x1)) 52 then
  some ((mup σ r (Int.toNat (mwrap (4 + x1))) 99), 0)
  else none))
 else none) := by
  rcases hr with rfl | rfl <;> exact (srun_unr _ [] 19 _).trans rfl
/-! GridQuarrelsModel.keep()V: method 196; stops [6, 29] -/
theorem b_M_keep (Ln d : Nat) (σ : mmSt) : srun (lyT Ln) ((d + 1), 196, 0, [mR 92, mJ], [], σ) =
 (bif decide (¬ (σ 92 9) = 24) then
  srun (lyT Ln) ((d + 1), 196, 29, [mR 92, mI 0], [], σ)
 else
  srun (lyT Ln) ((d + 1), 196, 6, [mR 92, mI 0], [], σ)) := by
  exact (srun_unr _ [6, 29] 6 _).trans rfl
theorem b_M_keep_6 (Ln d : Nat) (σ : mmSt) (z1 : Int) : srun (lyT Ln) ((d + 1), 196, 6, [mR 92, mI z1], [], σ) =
 (bif decide (1196 ≤ z1) then
  srun (lyT Ln) ((d + 1), 196, 29, [mR 92, mI 0], [], (mup σ 92 9 (mwrap ((σ 92 9) - 1))))
 else
  (bif minb (mwrap (z1 + 52)) 1248 then
  (bif minb z1 1248 then
  srun (lyT Ln) ((d + 1), 196, 6, [mR 92, mI (mwrap (z1 + 1))], [], (mup σ 99 (Int.toNat z1) (σ 99 (Int.toNat (mwrap (z1 + 52))))))
  else none)
  else none)) := by
  exact (srun_unr _ [6, 29] 15 _).trans rfl
theorem b_M_keep_29 (Ln d : Nat) (σ : mmSt) (z1 : Int) : srun (lyT Ln) ((d + 1), 196, 29, [mR 92, mI z1], [], σ) =
 (bif decide (52 ≤ z1) then
  some ((mup σ 92 9 (mwrap ((σ 92 9) + 1))), 0)
 else
  (bif minb z1 52 then
  (bif minb (mwrap ((mwrap (52 * (σ 92 9))) + z1)) 1248 then
  srun (lyT Ln) ((d + 1), 196, 29, [mR 92, mI (mwrap (z1 + 1))], [], (mup σ 99 (Int.toNat (mwrap ((mwrap (52 * (σ 92 9))) + z1))) (σ 96 (Int.toNat z1))))
  else none)
  else none)) := by
  exact (srun_unr _ [6, 29] 18 _).trans rfl
/-! GridQuarrelsModel.years(I)I: method 197; stops [28] -/
theorem b_M_years (Ln d : Nat) (σ : mmSt) (x0 : Int) : srun (lyT Ln) ((d + 1), 197, 0, [mR 92, mI x0, mJ], [], σ) =
 (Option.bind (srun (lyT Ln) (d, 178, 0, [mR 92], [], (mup σ 92 0 0))) (fun y1 =>
 (bif decide (¬ y1.2 = 0) then
  (Option.bind (srun (lyT Ln) (d, 156, 0, [mL x0, mJ, mL 1, mJ, mL 24, mJ], [], y1.1)) (fun y2 =>
  (bif decide (¬ y2.2 = 0) then
   (bif decide ((mwrap ((y2.1 96 3) + x0)) ≤ 999) then
    srun (lyT Ln) ((d + 1), 197, 28, [mR 92, mI x0, mI 0], [], y2.1)
   else
    some (y2.1, (-1000003)))
  else
   some (y2.1, (-1000001)))))
 else
  some (y1.1, (-1000002))))) := by
  exact (srun_unr _ [28] 22 _).trans rfl
theorem b_M_years_28 (Ln d : Nat) (σ : mmSt) (z1 z2 : Int) : srun (lyT Ln) ((d + 1), 197, 28, [mR 92, mI z1, mI z2], [], σ) =
 (bif decide (z1 ≤ z2) then
  (Option.bind (srun (lyT Ln) (d, 194, 0, [mR 96, mJ, mJ], [], σ)) (fun y1 =>
  some (y1.1, y1.2)))
 else
  (Option.bind (srun (lyT Ln) (d, 196, 0, [mR 92, mJ], [], σ)) (fun y2 =>
  (Option.bind (srun (lyT Ln) (d, 191, 0, [mR 92, mR 96, mJ, mJ, mJ], [], y2.1)) (fun y3 =>
  srun (lyT Ln) ((d + 1), 197, 28, [mR 92, mI z1, mI (mwrap (z2 + 1))], [], y3.1)))))) := by
  exact (srun_unr _ [28] 11 _).trans rfl
/-! GridQuarrelsModel.hay(II)I: method 198; stops [] -/
theorem b_M_hay (Ln d : Nat) (σ : mmSt) (x0 x1 : Int) : srun (lyT Ln) ((d + 1), 198, 0, [mR 92, mI x0, mI x1], [], σ) =
 (Option.bind (srun (lyT Ln) (d, 179, 0, [mR 92, mI x0], [], (mup σ 92 0 0))) (fun y1 =>
 (bif decide (y1.2 = 0) then
  some (y1.1, (-1000001))
 else
  (Option.bind (srun (lyT Ln) (d, 156, 0, [mL x1, mJ, mL 1, mJ, mL 9, mJ], [], y1.1)) (fun y2 =>
  (bif decide (¬ y2.2 = 0) then
   (Option.bind (srun (lyT Ln) (d, 196, 0, [mR 92, mJ], [], y2.1)) (fun y3 =>
   (Option.bind (srun (lyT Ln) (d, 195, 0, [mR 96, mI x0, mI x1, mJ], [], y3.1)) (fun y4 =>
   (bif minb (mwrap (4 + x0)) 52 then
   some (y4.1, (y4.1 96 (Int.toNat (mwrap (4 + x0)))))
   else none)))))
  else
   some (y2.1, (-1000001)))))))) := by
  exact (srun_unr _ [] 27 _).trans rfl
/-! GridQuarrelsModel.grid(II)I: method 199; stops [] -/
theorem b_M_grid (Ln d : Nat) (σ : mmSt) (x0 x1 : Int) : srun (lyT Ln) ((d + 1), 199, 0, [mR 92, mI x0, mI x1, mJ], [], σ) =
 (Option.bind (srun (lyT Ln) (d, 180, 0, [mR 92, mI x0], [], (mup σ 92 0 0))) (fun y1 =>
 (bif decide (y1.2 = 0) then
  some (y1.1, (-1000001))
 else
  (Option.bind (srun (lyT Ln) (d, 156, 0, [mL x1, mJ, mL 0, mJ, mL 9, mJ], [], y1.1)) (fun y2 =>
  (bif decide (¬ y2.2 = 0) then
   (Option.bind (srun (lyT Ln) (d, 196, 0, [mR 92, mJ], [], y2.1)) (fun y3 =>
   (Option.bind (srun (lyT Ln) (d, 185, 0, [mR 96, mI x0, mI 2], [], y3.1)) (fun y4 =>
   (bif minb (mwrap ((mwrap (11 + (mwrap (3 * x0)))) + 2)) 52 then
   some ((mup y4.1 96 (Int.toNat (mwrap ((mwrap (11 + (mwrap (3 * x0)))) + 2))) x1), y4.2)
   else none)))))
  else
   some (y2.1, (-1000001)))))))) := by
  exact (srun_unr _ [] 34 _).trans rfl
/-! GridQuarrelsModel.drive(II)I: method 200; stops [] -/
theorem b_M_drive (Ln d : Nat) (σ : mmSt) (x0 x1 : Int) : srun (lyT Ln) ((d + 1), 200, 0, [mR 92, mI x0, mI x1, mJ], [], σ) =
 (Option.bind (srun (lyT Ln) (d, 181, 0, [mR 92, mI x0], [], (mup σ 92 0 0))) (fun y1 =>
 (bif decide (y1.2 = 0) then
  some (y1.1, (-1000001))
 else
  (Option.bind (srun (lyT Ln) (d, 180, 0, [mR 92, mI x1], [], y1.1)) (fun y2 =>
  (bif decide (¬ y2.2 = 0) then
   (Option.bind (srun (lyT Ln) (d, 184, 0, [mR 96, mI x0, mI 1], [], y2.1)) (fun y3 =>
   (Option.bind (srun (lyT Ln) (d, 189, 0, [mR 96, mI x1, mI y3.2], [], y3.1)) (fun y4 =>
   (Option.bind (srun (lyT Ln) (d, 186, 0, [mR 96, mI x0], [], y4.1)) (fun y5 =>
   (bif decide (y5.2 = 0) then
    some (y5.1, (-1000002))
   else
    (bif decide (¬ y4.2 = (-1000000)) then
     (Option.bind (srun (lyT Ln) (d, 196, 0, [mR 92, mJ], [], y5.1)) (fun y6 =>
     (bif minb (mwrap ((mwrap (32 + (mwrap (4 * x0)))) + 1)) 52 then
     some ((mup y6.1 96 (Int.toNat (mwrap ((mwrap (32 + (mwrap (4 * x0)))) + 1))) y4.2), y4.2)
     else none)))
    else
     some (y5.1, (-1000002))))))))))
  else
   some (y2.1, (-1000001)))))))) := by
  exact (srun_unr _ [] 44 _).trans rfl
/-! GridQuarrelsModel.grow(II)I: method 201; stops [] -/
theorem b_M_grow (Ln d : Nat) (σ : mmSt) (x0 x1 : Int) : srun (lyT Ln) ((d + 1), 201, 0, [mR 92, mI x0, mI x1, mJ], [], σ) =
 (Option.bind (srun (lyT Ln) (d, 181, 0, [mR 92, mI x0], [], (mup σ 92 0 0))) (fun y1 =>
 (bif decide (y1.2 = 0) then
  some (y1.1, (-1000001))
 else
  (Option.bind (srun (lyT Ln) (d, 156, 0, [mL x1, mJ, mL 1, mJ, mL 9, mJ], [], y1.1)) (fun y2 =>
  (bif decide (¬ y2.2 = 0) then
   (Option.bind (srun (lyT Ln) (d, 186, 0, [mR 96, mI x0], [], y2.1)) (fun y3 =>
   (bif decide (¬ y3.2 = 0) then
    (Option.bind (srun (lyT Ln) (d, 196, 0, [mR 92, mJ], [], y3.1)) (fun y4 =>
    (Option.bind (srun (lyT Ln) (d, 184, 0, [mR 96, mI x0, mI 2], [], y4.1)) (fun y5 =>
    (bif minb (mwrap ((mwrap (32 + (mwrap (4 * x0)))) + 2)) 52 then
    some ((mup y5.1 96 (Int.toNat (mwrap ((mwrap (32 + (mwrap (4 * x0)))) + 2))) x1), y5.2)
    else none)))))
   else
    some (y3.1, (-1000002)))))
  else
   some (y2.1, (-1000001)))))))) := by
  exact (srun_unr _ [] 39 _).trans rfl
/-! GridQuarrelsModel.undo()I: method 202; stops [16] -/
theorem b_M_undo (Ln d : Nat) (σ : mmSt) : srun (lyT Ln) ((d + 1), 202, 0, [mR 92, mJ], [], σ) =
 (bif decide (¬ ((mup σ 92 0 0) 92 9) = 0) then
  srun (lyT Ln) ((d + 1), 202, 16, [mR 92, mI 0], [], (mup (mup σ 92 0 0) 92 9 (mwrap (((mup σ 92 0 0) 92 9) - 1))))
 else
  some ((mup σ 92 0 0), (-1000002))) := by
  exact (srun_unr _ [16] 14 _).trans rfl
theorem b_M_undo_16 (Ln d : Nat) (σ : mmSt) (z1 : Int) : srun (lyT Ln) ((d + 1), 202, 16, [mR 92, mI z1], [], σ) =
 (bif decide (52 ≤ z1) then
  some (σ, (σ 92 9))
 else
  (bif minb (mwrap ((mwrap (52 * (σ 92 9))) + z1)) 1248 then
  (bif minb z1 52 then
  srun (lyT Ln) ((d + 1), 202, 16, [mR 92, mI (mwrap (z1 + 1))], [], (mup σ 96 (Int.toNat z1) (σ 99 (Int.toNat (mwrap ((mwrap (52 * (σ 92 9))) + z1))))))
  else none)
  else none)) := by
  exact (srun_unr _ [16] 18 _).trans rfl
/-! GridQuarrelsModel.quarrel(II)I: method 203; stops [19] -/
theorem b_M_quarrel (Ln d : Nat) (σ : mmSt) (x0 x1 : Int) : srun (lyT Ln) ((d + 1), 203, 0, [mR 92, mI x0, mI x1, mJ, mJ], [], σ) =
 (Option.bind (srun (lyT Ln) (d, 181, 0, [mR 92, mI x0], [], (mup σ 92 0 0))) (fun y1 =>
 (bif decide (y1.2 = 0) then
  some (y1.1, (-1000001))
 else
  (Option.bind (srun (lyT Ln) (d, 156, 0, [mL x1, mJ, mL 0, mJ, mL 4, mJ], [], y1.1)) (fun y2 =>
  (bif decide (¬ y2.2 = 0) then
   srun (lyT Ln) ((d + 1), 203, 19, [mR 92, mI x0, mI x1, mI 0, mI 0], [], y2.1)
  else
   some (y2.1, (-1000001)))))))) := by
  exact (srun_unr _ [19] 17 _).trans rfl
theorem b_M_quarrel_19 (Ln d : Nat) (σ : mmSt) (z1 z2 z3 z4 : Int) : srun (lyT Ln) ((d + 1), 203, 19, [mR 92, mI z1, mI z2, mI z3, mI z4], [], σ) =
 (bif decide ((σ 96 1) ≤ z4) then
  (bif decide (3 ≤ z2) then
   (bif decide (¬ z2 = 3) then
    (Option.bind (srun (lyT Ln) (d, 190, 0, [mR 96, mI z1, mJ, mJ, mJ, mJ], [], σ)) (fun y1 =>
    some (y1.1, y1.2)))
   else
    some (σ, z3))
  else
   (Option.bind (srun (lyT Ln) (d, 184, 0, [mR 96, mI z1, mI (mwrap (1 + z2))], [], σ)) (fun y2 =>
   some (y2.1, y2.2))))
 else
  (Option.bind (srun (lyT Ln) (d, 186, 0, [mR 96, mI z1], [], σ)) (fun y3 =>
  (bif decide (y3.2 = 0) then
   srun (lyT Ln) ((d + 1), 203, 19, [mR 92, mI z1, mI z2, mI (mor z3 0), mI (mwrap (z4 + 1))], [], y3.1)
  else
   (Option.bind (srun (lyT Ln) (d, 184, 0, [mR 96, mI z1, mI 1], [], y3.1)) (fun y4 =>
   (Option.bind (srun (lyT Ln) (d, 189, 0, [mR 96, mI z4, mI y4.2], [], y4.1)) (fun y5 =>
   (bif decide (y5.2 = (-1000000)) then
    srun (lyT Ln) ((d + 1), 203, 19, [mR 92, mI z1, mI z2, mI (mor z3 0), mI (mwrap (z4 + 1))], [], y5.1)
   else
    (Option.bind (srun (lyT Ln) (d, 188, 0, [mR 96, mI z1, mI z4, mJ, mJ], [], y5.1)) (fun y6 =>
    (bif decide (y6.2 = 0) then
     srun (lyT Ln) ((d + 1), 203, 19, [mR 92, mI z1, mI z2, mI (mor z3 0), mI (mwrap (z4 + 1))], [], y6.1)
    else
     srun (lyT Ln) ((d + 1), 203, 19, [mR 92, mI z1, mI z2, mI (mor z3 (mshl 1 z4)), mI (mwrap (z4 + 1))], [], y6.1))))))))))))) := by
  exact (srun_unr _ [19] 37 _).trans rfl
/-! GridQuarrelsModel.road(II)I: method 204; stops [] -/
theorem b_M_road (Ln d : Nat) (σ : mmSt) (x0 x1 : Int) : srun (lyT Ln) ((d + 1), 204, 0, [mR 92, mI x0, mI x1], [], σ) =
 (Option.bind (srun (lyT Ln) (d, 180, 0, [mR 92, mI x0], [], (mup σ 92 0 0))) (fun y1 =>
 (bif decide (y1.2 = 0) then
  some (y1.1, (-1000001))
 else
  (Option.bind (srun (lyT Ln) (d, 156, 0, [mL x1, mJ, mL 0, mJ, mL 2, mJ], [], y1.1)) (fun y2 =>
  (bif decide (y2.2 = 0) then
   some (y2.1, (-1000001))
  else
   (Option.bind (srun (lyT Ln) (d, 185, 0, [mR 96, mI x0, mI x1], [], y2.1)) (fun y3 =>
   some (y3.1, y3.2))))))))) := by
  exact (srun_unr _ [] 20 _).trans rfl
/-! GridQuarrelsModel.parish(II)I: method 205; stops [19] -/
theorem b_M_parish (Ln d : Nat) (σ : mmSt) (x0 x1 : Int) : srun (lyT Ln) ((d + 1), 205, 0, [mR 92, mI x0, mI x1, mJ, mJ, mJ], [], σ) =
 (Option.bind (srun (lyT Ln) (d, 179, 0, [mR 92, mI x0], [], (mup σ 92 0 0))) (fun y1 =>
 (bif decide (y1.2 = 0) then
  some (y1.1, (-1000001))
 else
  (Option.bind (srun (lyT Ln) (d, 156, 0, [mL x1, mJ, mL 0, mJ, mL 2, mJ], [], y1.1)) (fun y2 =>
  (bif decide (¬ y2.2 = 0) then
   srun (lyT Ln) ((d + 1), 205, 19, [mR 92, mI x0, mI x1, mI 0, mI 0, mJ], [], y2.1)
  else
   some (y2.1, (-1000001)))))))) := by
  exact (srun_unr _ [19] 17 _).trans rfl
theorem b_M_parish_19 (Ln d : Nat) (σ : mmSt) (z1 z2 z3 z4 : Int) (v5 : mmV) : srun (lyT Ln) ((d + 1), 205, 19, [mR 92, mI z1, mI z2, mI z3, mI z4, v5], [], σ) =
 (bif decide (7 ≤ z4) then
  (bif decide (¬ z2 = 0) then
   some (σ, z3)
  else
   (bif minb (mwrap (4 + z1)) 52 then
   some (σ, (σ 96 (Int.toNat (mwrap (4 + z1)))))
   else none))
 else
  (bif decide (¬ z2 = 1) then
   (bif decide ((σ 96 1) ≤ z4) then
    srun (lyT Ln) ((d + 1), 205, 19, [mR 92, mI z1, mI z2, mI (mor z3 0), mI (mwrap (z4 + 1)), mI 0], [], σ)
   else
    (Option.bind (srun (lyT Ln) (d, 189, 0, [mR 96, mI z4, mI z1], [], σ)) (fun y1 =>
    (bif decide (y1.2 = (-1000000)) then
     srun (lyT Ln) ((d + 1), 205, 19, [mR 92, mI z1, mI z2, mI (mor z3 0), mI (mwrap (z4 + 1)), mI 0], [], y1.1)
    else
     srun (lyT Ln) ((d + 1), 205, 19, [mR 92, mI z1, mI z2, mI (mor z3 (mshl 1 z4)), mI (mwrap (z4 + 1)), mI 1], [], y1.1)))))
  else
   (bif decide ((σ 96 2) ≤ z4) then
    srun (lyT Ln) ((d + 1), 205, 19, [mR 92, mI z1, mI z2, mI (mor z3 0), mI (mwrap (z4 + 1)), mI 0], [], σ)
   else
    (Option.bind (srun (lyT Ln) (d, 187, 0, [mR 96, mI z4, mI z1], [], σ)) (fun y2 =>
    (bif decide (y2.2 = 0) then
     srun (lyT Ln) ((d + 1), 205, 19, [mR 92, mI z1, mI z2, mI (mor z3 0), mI (mwrap (z4 + 1)), mI 0], [], y2.1)
    else
     srun (lyT Ln) ((d + 1), 205, 19, [mR 92, mI z1, mI z2, mI (mor z3 (mshl 1 z4)), mI (mwrap (z4 + 1)), mI 1], [], y2.1))))))) := by
  exact (srun_unr _ [19] 33 _).trans rfl
/-! GridQuarrelsModel.ahead(III)I: method 206; stops [] -/
theorem b_M_ahead (Ln d : Nat) (σ : mmSt) (x0 x1 x2 : Int) : srun (lyT Ln) ((d + 1), 206, 0, [mR 92, mI x0, mI x1, mI x2], [], σ) =
 (Option.bind (srun (lyT Ln) (d, 181, 0, [mR 92, mI x0], [], (mup σ 92 0 0))) (fun y1 =>
 (bif decide (y1.2 = 0) then
  some (y1.1, (-1000001))
 else
  (Option.bind (srun (lyT Ln) (d, 156, 0, [mL x1, mJ, mL 0, mJ, mL 60, mJ], [], y1.1)) (fun y2 =>
  (bif decide (y2.2 = 0) then
   some (y2.1, (-1000001))
  else
   (Option.bind (srun (lyT Ln) (d, 156, 0, [mL x2, mJ, mL 0, mJ, mL 1, mJ], [], y2.1)) (fun y3 =>
   (bif decide (¬ y3.2 = 0) then
    (Option.bind (srun (lyT Ln) (d, 193, 0, [mR 92, mJ], [], y3.1)) (fun y4 =>
    (Option.bind (srun (lyT Ln) (d, 192, 0, [mR 92, mR 98, mI x1, mJ], [], y4.1)) (fun y5 =>
    (Option.bind (srun (lyT Ln) (d, 184, 0, [mR 98, mI x0, mI (mwrap (1 + x2))], [], y5.1)) (fun y6 =>
    some (y6.1, y6.2)))))))
   else
    some (y3.1, (-1000001))))))))))) := by
  exact (srun_unr _ [] 34 _).trans rfl
/-! GridQuarrelsModel.hayAhead(II)I: method 207; stops [] -/
theorem b_M_hayAhead (Ln d : Nat) (σ : mmSt) (x0 x1 : Int) : srun (lyT Ln) ((d + 1), 207, 0, [mR 92, mI x0, mI x1], [], σ) =
 (Option.bind (srun (lyT Ln) (d, 179, 0, [mR 92, mI x0], [], (mup σ 92 0 0))) (fun y1 =>
 (bif decide (y1.2 = 0) then
  some (y1.1, (-1000001))
 else
  (Option.bind (srun (lyT Ln) (d, 156, 0, [mL x1, mJ, mL 0, mJ, mL 60, mJ], [], y1.1)) (fun y2 =>
  (bif decide (¬ y2.2 = 0) then
   (Option.bind (srun (lyT Ln) (d, 193, 0, [mR 92, mJ], [], y2.1)) (fun y3 =>
   (Option.bind (srun (lyT Ln) (d, 192, 0, [mR 92, mR 98, mI x1, mJ], [], y3.1)) (fun y4 =>
   (bif minb (mwrap (4 + x0)) 52 then
   some (y4.1, (y4.1 98 (Int.toNat (mwrap (4 + x0)))))
   else none)))))
  else
   some (y2.1, (-1000001)))))))) := by
  exact (srun_unr _ [] 27 _).trans rfl
/-! GridQuarrelsModel.diesBy(I)I: method 208; stops [2] -/
theorem b_M_diesBy (Ln d : Nat) (σ : mmSt) (x0 : Int) : srun (lyT Ln) ((d + 1), 208, 0, [mR 92, mI x0, mJ], [], σ) =
 srun (lyT Ln) ((d + 1), 208, 2, [mR 92, mI x0, mI 0], [], σ) := by
  exact (srun_unr _ [2] 2 _).trans rfl
theorem b_M_diesBy_2 (Ln d : Nat) (σ : mmSt) (z1 z2 : Int) : srun (lyT Ln) ((d + 1), 208, 2, [mR 92, mI z1, mI z2], [], σ) =
 (bif decide (60 < z2) then
  some (σ, (-1000000))
 else
  (Option.bind (srun (lyT Ln) (d, 186, 0, [mR 98, mI z1], [], σ)) (fun y1 =>
  (bif decide (¬ y1.2 = 0) then
   (Option.bind (srun (lyT Ln) (d, 191, 0, [mR 92, mR 98, mJ, mJ, mJ], [], y1.1)) (fun y2 =>
   srun (lyT Ln) ((d + 1), 208, 2, [mR 92, mI z1, mI (mwrap (z2 + 1))], [], y2.1)))
  else
   some (y1.1, z2))))) := by
  exact (srun_unr _ [2] 14 _).trans rfl
/-! GridQuarrelsModel.dies(I)I: method 209; stops [] -/
theorem b_M_dies (Ln d : Nat) (σ : mmSt) (x0 : Int) : srun (lyT Ln) ((d + 1), 209, 0, [mR 92, mI x0], [], σ) =
 (Option.bind (srun (lyT Ln) (d, 181, 0, [mR 92, mI x0], [], (mup σ 92 0 0))) (fun y1 =>
 (bif decide (¬ y1.2 = 0) then
  (Option.bind (srun (lyT Ln) (d, 193, 0, [mR 92, mJ], [], y1.1)) (fun y2 =>
  (Option.bind (srun (lyT Ln) (d, 208, 0, [mR 92, mI x0, mJ], [], y2.1)) (fun y3 =>
  some (y3.1, y3.2)))))
 else
  some (y1.1, (-1000001))))) := by
  exact (srun_unr _ [] 13 _).trans rfl
/-! GridQuarrelsModel.comes(II)I: method 210; stops [17] -/
theorem b_M_comes (Ln d : Nat) (σ : mmSt) (x0 x1 : Int) : srun (lyT Ln) ((d + 1), 210, 0, [mR 92, mI x0, mI x1, mJ], [], σ) =
 (Option.bind (srun (lyT Ln) (d, 181, 0, [mR 92, mI x0], [], (mup σ 92 0 0))) (fun y1 =>
 (bif decide (y1.2 = 0) then
  some (y1.1, (-1000001))
 else
  (Option.bind (srun (lyT Ln) (d, 179, 0, [mR 92, mI x1], [], y1.1)) (fun y2 =>
  (bif decide (¬ y2.2 = 0) then
   (Option.bind (srun (lyT Ln) (d, 193, 0, [mR 92, mJ], [], y2.1)) (fun y3 =>
   srun (lyT Ln) ((d + 1), 210, 17, [mR 92, mI x0, mI x1, mI 0], [], y3.1)))
  else
   some (y2.1, (-1000001)))))))) := by
  exact (srun_unr _ [17] 15 _).trans rfl
theorem b_M_comes_17 (Ln d : Nat) (σ : mmSt) (z1 z2 z3 : Int) : srun (lyT Ln) ((d + 1), 210, 17, [mR 92, mI z1, mI z2, mI z3], [], σ) =
 (bif decide (60 < z3) then
  some (σ, (-1000000))
 else
  (Option.bind (srun (lyT Ln) (d, 187, 0, [mR 98, mI z1, mI z2], [], σ)) (fun y1 =>
  (bif decide (y1.2 = 0) then
   (Option.bind (srun (lyT Ln) (d, 191, 0, [mR 92, mR 98, mJ, mJ, mJ], [], y1.1)) (fun y2 =>
   srun (lyT Ln) ((d + 1), 210, 17, [mR 92, mI z1, mI z2, mI (mwrap (z3 + 1))], [], y2.1)))
  else
   some (y1.1, z3))))) := by
  exact (srun_unr _ [17] 15 _).trans rfl
/-! GridQuarrelsModel.meet(II)I: method 211; stops [20] -/
theorem b_M_meet (Ln d : Nat) (σ : mmSt) (x0 x1 : Int) : srun (lyT Ln) ((d + 1), 211, 0, [mR 92, mI x0, mI x1, mJ], [], σ) =
 (Option.bind (srun (lyT Ln) (d, 181, 0, [mR 92, mI x0], [], (mup σ 92 0 0))) (fun y1 =>
 (bif decide (y1.2 = 0) then
  some (y1.1, (-1000001))
 else
  (Option.bind (srun (lyT Ln) (d, 181, 0, [mR 92, mI x1], [], y1.1)) (fun y2 =>
  (bif decide (y2.2 = 0) then
   some (y2.1, (-1000001))
  else
   (bif decide (¬ x0 = x1) then
    (Option.bind (srun (lyT Ln) (d, 193, 0, [mR 92, mJ], [], y2.1)) (fun y3 =>
    srun (lyT Ln) ((d + 1), 211, 20, [mR 92, mI x0, mI x1, mI 0], [], y3.1)))
   else
    some (y2.1, (-1000001))))))))) := by
  exact (srun_unr _ [20] 18 _).trans rfl
theorem b_M_meet_20 (Ln d : Nat) (σ : mmSt) (z1 z2 z3 : Int) : srun (lyT Ln) ((d + 1), 211, 20, [mR 92, mI z1, mI z2, mI z3], [], σ) =
 (bif decide (60 < z3) then
  some (σ, (-1000000))
 else
  (Option.bind (srun (lyT Ln) (d, 186, 0, [mR 98, mI z1], [], σ)) (fun y1 =>
  (bif decide (y1.2 = 0) then
   (Option.bind (srun (lyT Ln) (d, 191, 0, [mR 92, mR 98, mJ, mJ, mJ], [], y1.1)) (fun y2 =>
   srun (lyT Ln) ((d + 1), 211, 20, [mR 92, mI z1, mI z2, mI (mwrap (z3 + 1))], [], y2.1)))
  else
   (Option.bind (srun (lyT Ln) (d, 184, 0, [mR 98, mI z1, mI 1], [], y1.1)) (fun y3 =>
   (Option.bind (srun (lyT Ln) (d, 187, 0, [mR 98, mI z2, mI y3.2], [], y3.1)) (fun y4 =>
   (bif decide (y4.2 = 0) then
    (Option.bind (srun (lyT Ln) (d, 191, 0, [mR 92, mR 98, mJ, mJ, mJ], [], y4.1)) (fun y5 =>
    srun (lyT Ln) ((d + 1), 211, 20, [mR 92, mI z1, mI z2, mI (mwrap (z3 + 1))], [], y5.1)))
   else
    some (y4.1, z3)))))))))) := by
  exact (srun_unr _ [20] 24 _).trans rfl
/-! GridQuarrelsModel.grazed(I)I: method 212; stops [22] -/
theorem b_M_grazed (Ln d : Nat) (σ : mmSt) (x0 : Int) : srun (lyT Ln) ((d + 1), 212, 0, [mR 92, mI x0, mJ, mJ], [], σ) =
 (Option.bind (srun (lyT Ln) (d, 178, 0, [mR 92], [], (mup σ 92 0 0))) (fun y1 =>
 (bif decide (¬ y1.2 = 0) then
  (Option.bind (srun (lyT Ln) (d, 156, 0, [mL x0, mJ, mL 1, mJ, mL 60, mJ], [], y1.1)) (fun y2 =>
  (bif decide (¬ y2.2 = 0) then
   (Option.bind (srun (lyT Ln) (d, 193, 0, [mR 92, mJ], [], y2.1)) (fun y3 =>
   srun (lyT Ln) ((d + 1), 212, 22, [mR 92, mI x0, mI 0, mI 0], [], y3.1)))
  else
   some (y2.1, (-1000001)))))
 else
  some (y1.1, (-1000002))))) := by
  exact (srun_unr _ [22] 18 _).trans rfl
theorem b_M_grazed_22 (Ln d : Nat) (σ : mmSt) (z1 z2 z3 : Int) : srun (lyT Ln) ((d + 1), 212, 22, [mR 92, mI z1, mI z2, mI z3], [], σ) =
 (bif decide (z1 ≤ z3) then
  some (σ, z2)
 else
  (Option.bind (srun (lyT Ln) (d, 191, 0, [mR 92, mR 98, mJ, mJ, mJ], [], σ)) (fun y1 =>
  srun (lyT Ln) ((d + 1), 212, 22, [mR 92, mI z1, mI (mor z2 (y1.1 92 20)), mI (mwrap (z3 + 1))], [], y1.1)))) := by
  exact (srun_unr _ [22] 14 _).trans rfl
/-! GridQuarrelsModel.shuts(III)I: method 213; stops [25, 45, 78, 89] -/
theorem b_M_shuts (Ln d : Nat) (σ : mmSt) (x0 x1 x2 : Int) : srun (lyT Ln) ((d + 1), 213, 0, [mR 92, mI x0, mI x1, mI x2, mJ, mJ, mJ, mJ, mJ], [], σ) =
 (Option.bind (srun (lyT Ln) (d, 179, 0, [mR 92, mI x0], [], (mup σ 92 0 0))) (fun y1 =>
 (bif decide (y1.2 = 0) then
  some (y1.1, (-1000001))
 else
  (Option.bind (srun (lyT Ln) (d, 156, 0, [mL x1, mJ, mL 1, mJ, mL 30, mJ], [], y1.1)) (fun y2 =>
  (bif decide (y2.2 = 0) then
   some (y2.1, (-1000001))
  else
   (Option.bind (srun (lyT Ln) (d, 156, 0, [mL x2, mJ, mL 0, mJ, mL 1, mJ], [], y2.1)) (fun y3 =>
   (bif decide (¬ y3.2 = 0) then
    srun (lyT Ln) ((d + 1), 213, 25, [mR 92, mI x0, mI x1, mI x2, mI (-1000000), mI 0, mJ, mJ, mJ], [], y3.1)
   else
    some (y3.1, (-1000001))))))))))) := by
  exact (srun_unr _ [25, 45, 78, 89] 23 _).trans rfl
theorem b_M_shuts_25 (Ln d : Nat) (σ : mmSt) (z1 z2 z3 z4 z5 : Int) (v6 v7 v8 : mmV) : srun (lyT Ln) ((d + 1), 213, 25, [mR 92, mI z1, mI z2, mI z3, mI z4, mI z5, v6, v7, v8], [], σ) =
 (bif decide ((mshl 1 (σ 96 1)) ≤ z5) then
  (bif decide (z4 = (-1000000)) then
   some (σ, z4)
  else
   (bif decide (¬ z3 = 1) then
    (Option.bind (srun (lyT Ln) (d, 182, 0, [mI z4, mJ, mJ], [], σ)) (fun y1 =>
    some (y1.1, y1.2)))
   else
    some (σ, z4)))
 else
  (bif decide (z4 = (-1000000)) then
   (Option.bind (srun (lyT Ln) (d, 193, 0, [mR 92, mJ], [], σ)) (fun y2 =>
   srun (lyT Ln) ((d + 1), 213, 45, [mR 92, mI z1, mI z2, mI z3, mI z4, mI z5, mI 0, v7, v8], [], y2.1)))
  else
   (Option.bind (srun (lyT Ln) (d, 182, 0, [mI z5, mJ, mJ], [], σ)) (fun y3 =>
   (Option.bind (srun (lyT Ln) (d, 182, 0, [mI z4, mJ, mJ], [], y3.1)) (fun y4 =>
   (bif decide (y4.2 ≤ y3.2) then
    srun (lyT Ln) ((d + 1), 213, 25, [mR 92, mI z1, mI z2, mI z3, mI z4, mI (mwrap (z5 + 1)), v6, v7, v8], [], y4.1)
   else
    (Option.bind (srun (lyT Ln) (d, 193, 0, [mR 92, mJ], [], y4.1)) (fun y5 =>
    srun (lyT Ln) ((d + 1), 213, 45, [mR 92, mI z1, mI z2, mI z3, mI z4, mI z5, mI 0, v7, v8], [], y5.1)))))))))) := by
  exact (srun_unr _ [25, 45, 78, 89] 20 _).trans rfl
theorem b_M_shuts_45 (Ln d : Nat) (σ : mmSt) (z1 z2 z3 z4 z5 z6 : Int) (v7 v8 : mmV) : srun (lyT Ln) ((d + 1), 213, 45, [mR 92, mI z1, mI z2, mI z3, mI z4, mI z5, mI z6, v7, v8], [], σ) =
 (bif decide ((σ 96 1) ≤ z6) then
  srun (lyT Ln) ((d + 1), 213, 78, [mR 92, mI z1, mI z2, mI z3, mI z4, mI z5, mI 1, mI 0, v8], [], σ)
 else
  (Option.bind (srun (lyT Ln) (d, 183, 0, [mI z5, mI z6], [], σ)) (fun y1 =>
  (bif decide (y1.2 = 0) then
   (Option.bind (srun (lyT Ln) (d, 185, 0, [mR 96, mI z6, mI 2], [], y1.1)) (fun y2 =>
   (bif minb (mwrap ((mwrap (11 + (mwrap (3 * z6)))) + 2)) 52 then
   srun (lyT Ln) ((d + 1), 213, 45, [mR 92, mI z1, mI z2, mI z3, mI z4, mI z5, mI (mwrap (z6 + 1)), v7, v8], [], (mup y2.1 98 (Int.toNat (mwrap ((mwrap (11 + (mwrap (3 * z6)))) + 2))) y2.2))
   else none)))
  else
   (bif minb (mwrap ((mwrap (11 + (mwrap (3 * z6)))) + 2)) 52 then
   srun (lyT Ln) ((d + 1), 213, 45, [mR 92, mI z1, mI z2, mI z3, mI z4, mI z5, mI (mwrap (z6 + 1)), v7, v8], [], (mup y1.1 98 (Int.toNat (mwrap ((mwrap (11 + (mwrap (3 * z6)))) + 2))) 12))
   else none))))) := by
  exact (srun_unr _ [25, 45, 78, 89] 27 _).trans rfl
theorem b_M_shuts_78 (Ln d : Nat) (σ : mmSt) (z1 z2 z3 z4 z5 z6 z7 : Int) (v8 : mmV) : srun (lyT Ln) ((d + 1), 213, 78, [mR 92, mI z1, mI z2, mI z3, mI z4, mI z5, mI z6, mI z7, v8], [], σ) =
 (bif decide (z2 ≤ z7) then
  (bif decide (z6 = 0) then
   srun (lyT Ln) ((d + 1), 213, 25, [mR 92, mI z1, mI z2, mI z3, mI z4, mI (mwrap (z5 + 1)), mI z6, mI z7, v8], [], σ)
  else
   srun (lyT Ln) ((d + 1), 213, 25, [mR 92, mI z1, mI z2, mI z3, mI z5, mI (mwrap (z5 + 1)), mI z6, mI z7, v8], [], σ))
 else
  (bif decide (z6 = 0) then
   (bif decide (z6 = 0) then
    srun (lyT Ln) ((d + 1), 213, 25, [mR 92, mI z1, mI z2, mI z3, mI z4, mI (mwrap (z5 + 1)), mI z6, mI z7, v8], [], σ)
   else
    srun (lyT Ln) ((d + 1), 213, 25, [mR 92, mI z1, mI z2, mI z3, mI z5, mI (mwrap (z5 + 1)), mI z6, mI z7, v8], [], σ))
  else
   (Option.bind (srun (lyT Ln) (d, 191, 0, [mR 92, mR 98, mJ, mJ, mJ], [], σ)) (fun y1 =>
   srun (lyT Ln) ((d + 1), 213, 89, [mR 92, mI z1, mI z2, mI z3, mI z4, mI z5, mI z6, mI z7, mI 0], [], y1.1))))) := by
  exact (srun_unr _ [25, 45, 78, 89] 12 _).trans rfl
theorem b_M_shuts_89 (Ln d : Nat) (σ : mmSt) (z1 z2 z3 z4 z5 z6 z7 z8 : Int) : srun (lyT Ln) ((d + 1), 213, 89, [mR 92, mI z1, mI z2, mI z3, mI z4, mI z5, mI z6, mI z7, mI z8], [], σ) =
 (bif decide ((σ 96 2) ≤ z8) then
  srun (lyT Ln) ((d + 1), 213, 78, [mR 92, mI z1, mI z2, mI z3, mI z4, mI z5, mI z6, mI (mwrap (z7 + 1)), mI z8], [], σ)
 else
  (bif decide (z6 = 0) then
   srun (lyT Ln) ((d + 1), 213, 89, [mR 92, mI z1, mI z2, mI z3, mI z4, mI z5, mI 0, mI z7, mI (mwrap (z8 + 1))], [], σ)
  else
   (Option.bind (srun (lyT Ln) (d, 187, 0, [mR 96, mI z8, mI z1], [], σ)) (fun y1 =>
   (bif decide (¬ y1.2 = 0) then
    srun (lyT Ln) ((d + 1), 213, 89, [mR 92, mI z1, mI z2, mI z3, mI z4, mI z5, mI 1, mI z7, mI (mwrap (z8 + 1))], [], y1.1)
   else
    (Option.bind (srun (lyT Ln) (d, 187, 0, [mR 98, mI z8, mI z1], [], y1.1)) (fun y2 =>
    (bif decide (¬ y2.2 = 0) then
     srun (lyT Ln) ((d + 1), 213, 89, [mR 92, mI z1, mI z2, mI z3, mI z4, mI z5, mI 0, mI z7, mI (mwrap (z8 + 1))], [], y2.1)
    else
     srun (lyT Ln) ((d + 1), 213, 89, [mR 92, mI z1, mI z2, mI z3, mI z4, mI z5, mI 1, mI z7, mI (mwrap (z8 + 1))], [], y2.1))))))))) := by
  exact (srun_unr _ [25, 45, 78, 89] 25 _).trans rfl
/-! GridQuarrelsModel.lures(IIII)I: method 214; stops [29, 49] -/
theorem b_M_lures (Ln d : Nat) (σ : mmSt) (x0 x1 x2 x3 : Int) : srun (lyT Ln) ((d + 1), 214, 0, [mR 92, mI x0, mI x1, mI x2, mI x3, mJ, mJ, mJ], [], σ) =
 (Option.bind (srun (lyT Ln) (d, 181, 0, [mR 92, mI x0], [], (mup σ 92 0 0))) (fun y1 =>
 (bif decide (y1.2 = 0) then
  some (y1.1, (-1000001))
 else
  (Option.bind (srun (lyT Ln) (d, 179, 0, [mR 92, mI x1], [], y1.1)) (fun y2 =>
  (bif decide (y2.2 = 0) then
   some (y2.1, (-1000001))
  else
   (Option.bind (srun (lyT Ln) (d, 156, 0, [mL x2, mJ, mL 1, mJ, mL 30, mJ], [], y2.1)) (fun y3 =>
   (bif decide (y3.2 = 0) then
    some (y3.1, (-1000001))
   else
    (Option.bind (srun (lyT Ln) (d, 156, 0, [mL x3, mJ, mL 0, mJ, mL 1, mJ], [], y3.1)) (fun y4 =>
    (bif decide (¬ y4.2 = 0) then
     srun (lyT Ln) ((d + 1), 214, 29, [mR 92, mI x0, mI x1, mI x2, mI x3, mI (-1000000), mI 0, mJ], [], y4.1)
    else
     some (y4.1, (-1000001)))))))))))))) := by
  exact (srun_unr _ [29, 49] 27 _).trans rfl
theorem b_M_lures_29 (Ln d : Nat) (σ : mmSt) (z1 z2 z3 z4 z5 z6 : Int) (v7 : mmV) : srun (lyT Ln) ((d + 1), 214, 29, [mR 92, mI z1, mI z2, mI z3, mI z4, mI z5, mI z6, v7], [], σ) =
 (bif decide ((mshl 1 (σ 96 0)) ≤ z6) then
  (bif decide (z5 = (-1000000)) then
   some (σ, z5)
  else
   (bif decide (¬ z4 = 1) then
    (Option.bind (srun (lyT Ln) (d, 182, 0, [mI z5, mJ, mJ], [], σ)) (fun y1 =>
    some (y1.1, y1.2)))
   else
    some (σ, z5)))
 else
  (bif decide (z5 = (-1000000)) then
   (Option.bind (srun (lyT Ln) (d, 193, 0, [mR 92, mJ], [], σ)) (fun y2 =>
   srun (lyT Ln) ((d + 1), 214, 49, [mR 92, mI z1, mI z2, mI z3, mI z4, mI z5, mI z6, mI 0], [], y2.1)))
  else
   (Option.bind (srun (lyT Ln) (d, 182, 0, [mI z6, mJ, mJ], [], σ)) (fun y3 =>
   (Option.bind (srun (lyT Ln) (d, 182, 0, [mI z5, mJ, mJ], [], y3.1)) (fun y4 =>
   (bif decide (y4.2 ≤ y3.2) then
    srun (lyT Ln) ((d + 1), 214, 29, [mR 92, mI z1, mI z2, mI z3, mI z4, mI z5, mI (mwrap (z6 + 1)), v7], [], y4.1)
   else
    (Option.bind (srun (lyT Ln) (d, 193, 0, [mR 92, mJ], [], y4.1)) (fun y5 =>
    srun (lyT Ln) ((d + 1), 214, 49, [mR 92, mI z1, mI z2, mI z3, mI z4, mI z5, mI z6, mI 0], [], y5.1)))))))))) := by
  exact (srun_unr _ [29, 49] 20 _).trans rfl
theorem b_M_lures_49 (Ln d : Nat) (σ : mmSt) (z1 z2 z3 z4 z5 z6 z7 : Int) : srun (lyT Ln) ((d + 1), 214, 49, [mR 92, mI z1, mI z2, mI z3, mI z4, mI z5, mI z6, mI z7], [], σ) =
 (bif decide ((σ 96 0) ≤ z7) then
  (Option.bind (srun (lyT Ln) (d, 192, 0, [mR 92, mR 98, mI z3, mJ], [], σ)) (fun y1 =>
  (Option.bind (srun (lyT Ln) (d, 187, 0, [mR 98, mI z1, mI z2], [], y1.1)) (fun y2 =>
  (bif decide (y2.2 = 0) then
   srun (lyT Ln) ((d + 1), 214, 29, [mR 92, mI z1, mI z2, mI z3, mI z4, mI z5, mI (mwrap (z6 + 1)), mI z7], [], y2.1)
  else
   srun (lyT Ln) ((d + 1), 214, 29, [mR 92, mI z1, mI z2, mI z3, mI z4, mI z6, mI (mwrap (z6 + 1)), mI z7], [], y2.1))))))
 else
  (Option.bind (srun (lyT Ln) (d, 183, 0, [mI z6, mI z7], [], σ)) (fun y3 =>
  (bif decide (y3.2 = 0) then
   (Option.bind (srun (lyT Ln) (d, 195, 0, [mR 98, mI z7, mI 0, mJ], [], y3.1)) (fun y4 =>
   srun (lyT Ln) ((d + 1), 214, 49, [mR 92, mI z1, mI z2, mI z3, mI z4, mI z5, mI z6, mI (mwrap (z7 + 1))], [], y4.1)))
  else
   (Option.bind (srun (lyT Ln) (d, 195, 0, [mR 98, mI z7, mI 9, mJ], [], y3.1)) (fun y5 =>
   srun (lyT Ln) ((d + 1), 214, 49, [mR 92, mI z1, mI z2, mI z3, mI z4, mI z5, mI z6, mI (mwrap (z7 + 1))], [], y5.1))))))) := by
  exact (srun_unr _ [29, 49] 22 _).trans rfl
/-! GridQuarrelsModel.starve(II)I: method 215; stops [21] -/
theorem b_M_starve (Ln d : Nat) (σ : mmSt) (x0 x1 : Int) : srun (lyT Ln) ((d + 1), 215, 0, [mR 92, mI x0, mI x1, mJ, mJ, mJ, mJ, mJ], [], σ) =
 (Option.bind (srun (lyT Ln) (d, 181, 0, [mR 92, mI x0], [], (mup σ 92 0 0))) (fun y1 =>
 (bif decide (y1.2 = 0) then
  some (y1.1, (-1000001))
 else
  (Option.bind (srun (lyT Ln) (d, 156, 0, [mL x1, mJ, mL 0, mJ, mL 1, mJ], [], y1.1)) (fun y2 =>
  (bif decide (¬ y2.2 = 0) then
   srun (lyT Ln) ((d + 1), 215, 21, [mR 92, mI x0, mI x1, mI (-1000000), mI (-1000000), mI 0, mJ, mJ], [], y2.1)
  else
   some (y2.1, (-1000001)))))))) := by
  exact (srun_unr _ [21] 19 _).trans rfl
set_option maxRecDepth 100000 in
theorem b_M_starve_21 (Ln d : Nat) (σ : mmSt) (z1 z2 z3 z4 z5 : Int) (v6 v7 : mmV) : srun (lyT Ln) ((d + 1), 215, 21, [mR 92, mI z1, mI z2, mI z3, mI z4, mI z5, v6, v7], [], σ) =
 (bif decide ((σ 96 0) ≤ z5) then
  (bif decide (¬ z2 = 0) then
   some (σ, z4)
  else
   some (σ, z3))
 else
  (Option.bind (srun (lyT Ln) (d, 186, 0, [mR 96, mI z1], [], σ)) (fun y1 =>
  (bif decide (y1.2 = 0) then
   (bif decide (¬ z2 = 0) then
    some (y1.1, z4)
   else
    some (y1.1, z3))
  else
   (Option.bind (srun (lyT Ln) (d, 193, 0, [mR 92, mJ], [], y1.1)) (fun y2 =>
   (bif minb (mwrap (4 + z5)) 52 then
   (Option.bind (srun (lyT Ln) (d, 208, 0, [mR 92, mI z1, mJ], [], (mup y2.1 98 (Int.toNat (mwrap (4 + z5))) 0))) (fun y3 =>
   (bif decide (y3.2 = (-1000000)) then
    srun (lyT Ln) ((d + 1), 215, 21, [mR 92, mI z1, mI z2, mI z3, mI z4, mI (mwrap (z5 + 1)), mI y3.2, mI 0], [], y3.1)
   else
    (bif decide (z3 = (-1000000)) then
     srun (lyT Ln) ((d + 1), 215, 21, [mR 92, mI z1, mI z2, mI z5, mI y3.2, mI (mwrap (z5 + 1)), mI y3.2, mI 1], [], y3.1)
    else
     (bif decide (z4 ≤ y3.2) then
      srun (lyT Ln) ((d + 1), 215, 21, [mR 92, mI z1, mI z2, mI z3, mI z4, mI (mwrap (z5 + 1)), mI y3.2, mI 0], [], y3.1)
     else
      srun (lyT Ln) ((d + 1), 215, 21, [mR 92, mI z1, mI z2, mI z5, mI y3.2, mI (mwrap (z5 + 1)), mI y3.2, mI 1], [], y3.1))))))
   else none))))))) := by
  exact (srun_unr _ [21] 48 _).trans rfl
/-! GridQuarrelsModel.reachBy(II)I: method 216; stops [10, 17] -/
theorem b_M_reachBy (Ln d : Nat) (σ : mmSt) (x0 x1 : Int) : srun (lyT Ln) ((d + 1), 216, 0, [mR 92, mI x0, mI x1, mJ, mJ, mJ, mJ], [], σ) =
 (Option.bind (srun (lyT Ln) (d, 184, 0, [mR 96, mI x0, mI 1], [], σ)) (fun y1 =>
 srun (lyT Ln) ((d + 1), 216, 10, [mR 92, mI x0, mI x1, mI (mshl 1 y1.2), mI 0, mJ, mJ], [], y1.1))) := by
  exact (srun_unr _ [10, 17] 10 _).trans rfl
theorem b_M_reachBy_10 (Ln d : Nat) (σ : mmSt) (z1 z2 z3 z4 : Int) (v5 v6 : mmV) : srun (lyT Ln) ((d + 1), 216, 10, [mR 92, mI z1, mI z2, mI z3, mI z4, v5, v6], [], σ) =
 (bif decide (z2 ≤ z4) then
  some (σ, z3)
 else
  srun (lyT Ln) ((d + 1), 216, 17, [mR 92, mI z1, mI z2, mI z3, mI z4, mI z3, mI 0], [], σ)) := by
  exact (srun_unr _ [10, 17] 7 _).trans rfl
set_option maxRecDepth 100000 in
theorem b_M_reachBy_17 (Ln d : Nat) (σ : mmSt) (z1 z2 z3 z4 z5 z6 : Int) : srun (lyT Ln) ((d + 1), 216, 17, [mR 92, mI z1, mI z2, mI z3, mI z4, mI z5, mI z6], [], σ) =
 (bif decide ((σ 96 1) ≤ z6) then
  srun (lyT Ln) ((d + 1), 216, 10, [mR 92, mI z1, mI z2, mI z5, mI (mwrap (z4 + 1)), mI z5, mI z6], [], σ)
 else
  (Option.bind (srun (lyT Ln) (d, 188, 0, [mR 96, mI z1, mI z6, mJ, mJ], [], σ)) (fun y1 =>
  (bif decide (y1.2 = 0) then
   srun (lyT Ln) ((d + 1), 216, 17, [mR 92, mI z1, mI z2, mI z3, mI z4, mI z5, mI (mwrap (z6 + 1))], [], y1.1)
  else
   (Option.bind (srun (lyT Ln) (d, 185, 0, [mR 96, mI z6, mI 0], [], y1.1)) (fun y2 =>
   (Option.bind (srun (lyT Ln) (d, 183, 0, [mI z3, mI y2.2], [], y2.1)) (fun y3 =>
   (bif decide (y3.2 = 0) then
    (Option.bind (srun (lyT Ln) (d, 185, 0, [mR 96, mI z6, mI 1], [], y3.1)) (fun y4 =>
    (Option.bind (srun (lyT Ln) (d, 183, 0, [mI z3, mI y4.2], [], y4.1)) (fun y5 =>
    (bif decide (y5.2 = 0) then
     srun (lyT Ln) ((d + 1), 216, 17, [mR 92, mI z1, mI z2, mI z3, mI z4, mI (mor (mor z5 0) 0), mI (mwrap (z6 + 1))], [], y5.1)
    else
     (Option.bind (srun (lyT Ln) (d, 185, 0, [mR 96, mI z6, mI 0], [], y5.1)) (fun y6 =>
     srun (lyT Ln) ((d + 1), 216, 17, [mR 92, mI z1, mI z2, mI z3, mI z4, mI (mor (mor z5 0) (mshl 1 y6.2)), mI (mwrap (z6 + 1))], [], y6.1))))))))
   else
    (Option.bind (srun (lyT Ln) (d, 185, 0, [mR 96, mI z6, mI 1], [], y3.1)) (fun y7 =>
    (Option.bind (srun (lyT Ln) (d, 185, 0, [mR 96, mI z6, mI 1], [], y7.1)) (fun y8 =>
    (Option.bind (srun (lyT Ln) (d, 183, 0, [mI z3, mI y8.2], [], y8.1)) (fun y9 =>
    (bif decide (y9.2 = 0) then
     srun (lyT Ln) ((d + 1), 216, 17, [mR 92, mI z1, mI z2, mI z3, mI z4, mI (mor (mor z5 (mshl 1 y7.2)) 0), mI (mwrap (z6 + 1))], [], y9.1)
    else
     (Option.bind (srun (lyT Ln) (d, 185, 0, [mR 96, mI z6, mI 0], [], y9.1)) (fun y10 =>
     srun (lyT Ln) ((d + 1), 216, 17, [mR 92, mI z1, mI z2, mI z3, mI z4, mI (mor (mor z5 (mshl 1 y7.2)) (mshl 1 y10.2)), mI (mwrap (z6 + 1))], [], y10.1))))))))))))))))))) := by
  exact (srun_unr _ [10, 17] 52 _).trans rfl
/-! GridQuarrelsModel.way(II)I: method 217; stops [22] -/
theorem b_M_way (Ln d : Nat) (σ : mmSt) (x0 x1 : Int) : srun (lyT Ln) ((d + 1), 217, 0, [mR 92, mI x0, mI x1, mJ], [], σ) =
 (Option.bind (srun (lyT Ln) (d, 181, 0, [mR 92, mI x0], [], (mup σ 92 0 0))) (fun y1 =>
 (bif decide (y1.2 = 0) then
  some (y1.1, (-1000001))
 else
  (Option.bind (srun (lyT Ln) (d, 179, 0, [mR 92, mI x1], [], y1.1)) (fun y2 =>
  (bif decide (¬ y2.2 = 0) then
   (Option.bind (srun (lyT Ln) (d, 186, 0, [mR 96, mI x0], [], y2.1)) (fun y3 =>
   (bif decide (¬ y3.2 = 0) then
    srun (lyT Ln) ((d + 1), 217, 22, [mR 92, mI x0, mI x1, mI 0], [], y3.1)
   else
    some (y3.1, (-1000002)))))
  else
   some (y2.1, (-1000001)))))))) := by
  exact (srun_unr _ [22] 18 _).trans rfl
theorem b_M_way_22 (Ln d : Nat) (σ : mmSt) (z1 z2 z3 : Int) : srun (lyT Ln) ((d + 1), 217, 22, [mR 92, mI z1, mI z2, mI z3], [], σ) =
 (bif decide (7 ≤ z3) then
  some (σ, (-1000000))
 else
  (Option.bind (srun (lyT Ln) (d, 216, 0, [mR 92, mI z1, mI z3, mJ, mJ, mJ, mJ], [], σ)) (fun y1 =>
  (Option.bind (srun (lyT Ln) (d, 183, 0, [mI y1.2, mI z2], [], y1.1)) (fun y2 =>
  (bif decide (y2.2 = 0) then
   srun (lyT Ln) ((d + 1), 217, 22, [mR 92, mI z1, mI z2, mI (mwrap (z3 + 1))], [], y2.1)
  else
   some (y2.1, z3))))))) := by
  exact (srun_unr _ [22] 12 _).trans rfl
/-! GridQuarrelsModel.reach(I)I: method 218; stops [] -/
theorem b_M_reach (Ln d : Nat) (σ : mmSt) (x0 : Int) : srun (lyT Ln) ((d + 1), 218, 0, [mR 92, mI x0], [], σ) =
 (Option.bind (srun (lyT Ln) (d, 181, 0, [mR 92, mI x0], [], (mup σ 92 0 0))) (fun y1 =>
 (bif decide (¬ y1.2 = 0) then
  (Option.bind (srun (lyT Ln) (d, 186, 0, [mR 96, mI x0], [], y1.1)) (fun y2 =>
  (bif decide (y2.2 = 0) then
   some (y2.1, (-1000002))
  else
   (Option.bind (srun (lyT Ln) (d, 216, 0, [mR 92, mI x0, mI 7, mJ, mJ, mJ, mJ], [], y2.1)) (fun y3 =>
   some (y3.1, y3.2))))))
 else
  some (y1.1, (-1000001))))) := by
  exact (srun_unr _ [] 18 _).trans rfl
/-! GridQuarrelsModel.home()I: method 219; stops [12] -/
theorem b_M_home (Ln d : Nat) (σ : mmSt) : srun (lyT Ln) ((d + 1), 219, 0, [mR 92, mJ, mJ], [], σ) =
 (Option.bind (srun (lyT Ln) (d, 178, 0, [mR 92], [], (mup σ 92 0 0))) (fun y1 =>
 (bif decide (¬ y1.2 = 0) then
  srun (lyT Ln) ((d + 1), 219, 12, [mR 92, mI 0, mI 0], [], y1.1)
 else
  some (y1.1, (-1000002))))) := by
  exact (srun_unr _ [12] 10 _).trans rfl
theorem b_M_home_12 (Ln d : Nat) (σ : mmSt) (z1 z2 : Int) : srun (lyT Ln) ((d + 1), 219, 12, [mR 92, mI z1, mI z2], [], σ) =
 (bif decide ((σ 96 2) ≤ z2) then
  some (σ, z1)
 else
  (Option.bind (srun (lyT Ln) (d, 184, 0, [mR 96, mI z2, mI 3], [], σ)) (fun y1 =>
  (Option.bind (srun (lyT Ln) (d, 187, 0, [mR 96, mI z2, mI y1.2], [], y1.1)) (fun y2 =>
  (bif decide (y2.2 = 0) then
   srun (lyT Ln) ((d + 1), 219, 12, [mR 92, mI (mor z1 0), mI (mwrap (z2 + 1))], [], y2.1)
  else
   srun (lyT Ln) ((d + 1), 219, 12, [mR 92, mI (mor z1 (mshl 1 z2)), mI (mwrap (z2 + 1))], [], y2.1))))))) := by
  exact (srun_unr _ [12] 25 _).trans rfl
/-! GridQuarrelsModel.fed(II)I: method 220; stops [26, 38, 47, 74] -/
theorem b_M_fed (Ln d : Nat) (σ : mmSt) (x0 x1 : Int) : srun (lyT Ln) ((d + 1), 220, 0, [mR 92, mI x0, mI x1, mJ, mJ], [], σ) =
 (Option.bind (srun (lyT Ln) (d, 178, 0, [mR 92], [], (mup σ 92 0 0))) (fun y1 =>
 (bif decide (¬ y1.2 = 0) then
  (Option.bind (srun (lyT Ln) (d, 156, 0, [mL x0, mJ, mL 1, mJ, mL 60, mJ], [], y1.1)) (fun y2 =>
  (bif decide (y2.2 = 0) then
   some (y2.1, (-1000001))
  else
   (Option.bind (srun (lyT Ln) (d, 156, 0, [mL x1, mJ, mL 0, mJ, mL 1, mJ], [], y2.1)) (fun y3 =>
   (bif decide (¬ y3.2 = 0) then
    (Option.bind (srun (lyT Ln) (d, 193, 0, [mR 92, mJ], [], y3.1)) (fun y4 =>
    srun (lyT Ln) ((d + 1), 220, 26, [mR 92, mI x0, mI x1, mI 0, mJ], [], y4.1)))
   else
    some (y3.1, (-1000001))))))))
 else
  some (y1.1, (-1000002))))) := by
  exact (srun_unr _ [26, 38, 47, 74] 22 _).trans rfl
theorem b_M_fed_26 (Ln d : Nat) (σ : mmSt) (z1 z2 z3 : Int) : srun (lyT Ln) ((d + 1), 220, 26, [mR 92, mI z1, mI z2, mI z3, mJ], [], σ) =
 (bif decide (5 ≤ z3) then
  srun (lyT Ln) ((d + 1), 220, 38, [mR 92, mI z1, mI z2, mI 0, mJ], [], σ)
 else
  (bif minb z3 5 then
  srun (lyT Ln) ((d + 1), 220, 26, [mR 92, mI z1, mI z2, mI (mwrap (z3 + 1)), mJ], [], (mup σ 101 (Int.toNat z3) 0))
  else none)) := by
  exact (srun_unr _ [26, 38, 47, 74] 10 _).trans rfl
theorem b_M_fed_38 (Ln d : Nat) (σ : mmSt) (z1 z2 z3 : Int) (v4 : mmV) : srun (lyT Ln) ((d + 1), 220, 38, [mR 92, mI z1, mI z2, mI z3, v4], [], σ) =
 (bif decide (z1 ≤ z3) then
  srun (lyT Ln) ((d + 1), 220, 74, [mR 92, mI z1, mI z2, mI 0, mI 1], [], σ)
 else
  (Option.bind (srun (lyT Ln) (d, 191, 0, [mR 92, mR 98, mJ, mJ, mJ], [], σ)) (fun y1 =>
  srun (lyT Ln) ((d + 1), 220, 47, [mR 92, mI z1, mI z2, mI z3, mI 0], [], y1.1)))) := by
  exact (srun_unr _ [26, 38, 47, 74] 9 _).trans rfl
theorem b_M_fed_47 (Ln d : Nat) (σ : mmSt) (z1 z2 z3 z4 : Int) : srun (lyT Ln) ((d + 1), 220, 47, [mR 92, mI z1, mI z2, mI z3, mI z4], [], σ) =
 (bif decide ((σ 96 2) ≤ z4) then
  srun (lyT Ln) ((d + 1), 220, 38, [mR 92, mI z1, mI z2, mI (mwrap (z3 + 1)), mI z4], [], σ)
 else
  (bif minb z4 5 then
  (bif minb z4 5 then
  srun (lyT Ln) ((d + 1), 220, 47, [mR 92, mI z1, mI z2, mI z3, mI (mwrap (z4 + 1))], [], (mup σ 101 (Int.toNat z4) (mwrap ((σ 101 (Int.toNat z4)) + (mand (mshr (σ 92 19) z4) 1)))))
  else none)
  else none)) := by
  exact (srun_unr _ [26, 38, 47, 74] 21 _).trans rfl
theorem b_M_fed_74 (Ln d : Nat) (σ : mmSt) (z1 z2 z3 z4 : Int) : srun (lyT Ln) ((d + 1), 220, 74, [mR 92, mI z1, mI z2, mI z3, mI z4], [], σ) =
 (bif decide ((σ 96 2) ≤ z4) then
  (bif decide (¬ z2 = 0) then
   (bif minb z3 5 then
   some (σ, (σ 101 (Int.toNat z3)))
   else none)
  else
   some (σ, z3))
 else
  (bif minb z4 5 then
  (bif minb z3 5 then
  (bif decide ((σ 101 (Int.toNat z4)) ≤ (σ 101 (Int.toNat z3))) then
   srun (lyT Ln) ((d + 1), 220, 74, [mR 92, mI z1, mI z2, mI z3, mI (mwrap (z4 + 1))], [], σ)
  else
   srun (lyT Ln) ((d + 1), 220, 74, [mR 92, mI z1, mI z2, mI z4, mI (mwrap (z4 + 1))], [], σ))
  else none)
  else none)) := by
  exact (srun_unr _ [26, 38, 47, 74] 20 _).trans rfl
/-! GridQuarrelsModel.isSo(III)Z: method 221; stops [4] -/
theorem b_M_isSo (Ln d : Nat) (σ : mmSt) (x0 x1 x2 : Int) : srun (lyT Ln) ((d + 1), 221, 0, [mR 92, mI x0, mI x1, mI x2, mJ, mJ], [], σ) =
 srun (lyT Ln) ((d + 1), 221, 4, [mR 92, mI x0, mI x1, mI x2, mI 1, mI 0], [], σ) := by
  exact (srun_unr _ [4] 4 _).trans rfl
theorem b_M_isSo_4 (Ln d : Nat) (σ : mmSt) (z1 z2 z3 z4 z5 : Int) : srun (lyT Ln) ((d + 1), 221, 4, [mR 92, mI z1, mI z2, mI z3, mI z4, mI z5], [], σ) =
 (bif decide (z3 ≤ z5) then
  (bif decide (0 ≤ z4) && decide (z4 ≤ 1) then some (σ, z4) else none)
 else
  (Option.bind (srun (lyT Ln) (d, 191, 0, [mR 92, mR 98, mJ, mJ, mJ], [], σ)) (fun y1 =>
  (bif decide (z4 = 0) then
   srun (lyT Ln) ((d + 1), 221, 4, [mR 92, mI z1, mI z2, mI z3, mI 0, mI (mwrap (z5 + 1))], [], y1.1)
  else
   (Option.bind (srun (lyT Ln) (d, 184, 0, [mR 98, mI z1, mI 1], [], y1.1)) (fun y2 =>
   (bif minb (mwrap (z2 + z5)) 320 then
   (bif decide (¬ y2.2 = (y2.1 95 (Int.toNat (mwrap (z2 + z5))))) then
    srun (lyT Ln) ((d + 1), 221, 4, [mR 92, mI z1, mI z2, mI z3, mI 0, mI (mwrap (z5 + 1))], [], y2.1)
   else
    srun (lyT Ln) ((d + 1), 221, 4, [mR 92, mI z1, mI z2, mI z3, mI 1, mI (mwrap (z5 + 1))], [], y2.1))
   else none))))))) := by
  exact (srun_unr _ [4] 26 _).trans rfl
/-! GridQuarrelsModel.rowFound(III)I: method 222; stops [] -/
theorem b_M_rowFound (Ln d : Nat) (σ : mmSt) (x0 x1 x2 : Int) : srun (lyT Ln) ((d + 1), 222, 0, [mR 92, mI x0, mI x1, mI x2], [], σ) =
 (bif minb x0 8 then
 (bif decide (0 ≤ (σ 93 (Int.toNat x0))) then
  (bif decide (x1 < 0) then
   (Option.bind (srun (lyT Ln) (d, 157, 0, [mR 92, mI 2], [], σ)) (fun y1 =>
   some (y1.1, y1.2)))
  else
   (bif minb x0 8 then
   (bif decide ((mlcmp (mwrapL (x1 + x2)) (σ 94 (Int.toNat x0))) ≤ 0) then
    some ((mup σ 92 1 0), 0)
   else
    (Option.bind (srun (lyT Ln) (d, 157, 0, [mR 92, mI 2], [], σ)) (fun y2 =>
    some (y2.1, y2.2))))
   else none))
 else
  (Option.bind (srun (lyT Ln) (d, 157, 0, [mR 92, mI 1], [], σ)) (fun y3 =>
  some (y3.1, y3.2))))
 else none) := by
  exact (srun_unr _ [] 24 _).trans rfl
/-! GridQuarrelsModel.who(IIIII)I: method 223; stops [61] -/
set_option maxRecDepth 100000 in
theorem b_M_who (Ln d : Nat) (σ : mmSt) (x0 x1 x2 x3 x4 : Int) : srun (lyT Ln) ((d + 1), 223, 0, [mR 92, mI x0, mI x1, mI x2, mI x3, mI x4, mJ, mJ, mJ, mJ], [], σ) =
 (Option.bind (srun (lyT Ln) (d, 181, 0, [mR 92, mI x0], [], (mup σ 92 0 0))) (fun y1 =>
 (bif decide (y1.2 = 0) then
  some (y1.1, (-1000001))
 else
  (Option.bind (srun (lyT Ln) (d, 156, 0, [mL x1, mJ, mL 0, mJ, mL 2, mJ], [], y1.1)) (fun y2 =>
  (bif decide (y2.2 = 0) then
   some (y2.1, (-1000001))
  else
   (Option.bind (srun (lyT Ln) (d, 158, 0, [mI x2], [], y2.1)) (fun y3 =>
   (bif decide (y3.2 = 0) then
    some (y3.1, (-1000001))
   else
    (Option.bind (srun (lyT Ln) (d, 156, 0, [mL x4, mJ, mL 1, mJ, mL 12, mJ], [], y3.1)) (fun y4 =>
    (bif decide (¬ y4.2 = 0) then
     (Option.bind (srun (lyT Ln) (d, 186, 0, [mR 96, mI x0], [], y4.1)) (fun y5 =>
     (bif decide (¬ y5.2 = 0) then
      (Option.bind (srun (lyT Ln) (d, 222, 0, [mR 92, mI x2, mI x3, mI x4], [], y5.1)) (fun y6 =>
      (bif decide (y6.2 = 0) then
       (bif decide (¬ x1 = 0) then
        (bif decide (¬ x1 = 1) then
         (bif decide (¬ x1 = 2) then
          srun (lyT Ln) ((d + 1), 223, 61, [mR 92, mI x0, mI x1, mI x2, mI x3, mI x4, mI y6.2, mI 0, mI 1, mI 1], [], y6.1)
         else
          srun (lyT Ln) ((d + 1), 223, 61, [mR 92, mI x0, mI x1, mI x2, mI x3, mI x4, mI y6.2, mI 0, mI 1, mI 0], [], y6.1))
        else
         (bif decide (¬ x1 = 2) then
          srun (lyT Ln) ((d + 1), 223, 61, [mR 92, mI x0, mI x1, mI x2, mI x3, mI x4, mI y6.2, mI 0, mI 2, mI 1], [], y6.1)
         else
          srun (lyT Ln) ((d + 1), 223, 61, [mR 92, mI x0, mI x1, mI x2, mI x3, mI x4, mI y6.2, mI 0, mI 2, mI 0], [], y6.1)))
       else
        (bif decide (¬ x1 = 2) then
         srun (lyT Ln) ((d + 1), 223, 61, [mR 92, mI x0, mI x1, mI x2, mI x3, mI x4, mI y6.2, mI 0, mI 0, mI 1], [], y6.1)
        else
         srun (lyT Ln) ((d + 1), 223, 61, [mR 92, mI x0, mI x1, mI x2, mI x3, mI x4, mI y6.2, mI 0, mI 0, mI 0], [], y6.1)))
      else
       some (y6.1, y6.2))))
     else
      some (y5.1, (-1000002)))))
    else
     some (y4.1, (-1000001)))))))))))))) := by
  exact (srun_unr _ [61] 51 _).trans rfl
theorem b_M_who_61 (Ln d : Nat) (σ : mmSt) (z1 z2 z3 z4 z5 z6 z7 z8 z9 : Int) : srun (lyT Ln) ((d + 1), 223, 61, [mR 92, mI z1, mI z2, mI z3, mI z4, mI z5, mI z6, mI z7, mI z8, mI z9], [], σ) =
 (bif decide (¬ z2 = 0) then
  (bif decide (¬ z2 = 1) then
   (bif decide ((mwrap ((σ 96 0) - 1)) < z9) then
    some (σ, z7)
   else
    (Option.bind (srun (lyT Ln) (d, 193, 0, [mR 92, mJ], [], σ)) (fun y1 =>
    (bif minb (mwrap ((mwrap (32 + (mwrap (4 * z1)))) + z8)) 52 then
    (Option.bind (srun (lyT Ln) (d, 221, 0, [mR 92, mI z1, mI (mwrap ((mwrap (40 * z3)) + z4)), mI z5, mJ, mJ], [], (mup y1.1 98 (Int.toNat (mwrap ((mwrap (32 + (mwrap (4 * z1)))) + z8))) z9))) (fun y2 =>
    (bif decide (y2.2 = 0) then
     srun (lyT Ln) ((d + 1), 223, 61, [mR 92, mI z1, mI z2, mI z3, mI z4, mI z5, mI z6, mI (mor z7 0), mI z8, mI (mwrap (z9 + 1))], [], y2.1)
    else
     srun (lyT Ln) ((d + 1), 223, 61, [mR 92, mI z1, mI z2, mI z3, mI z4, mI z5, mI z6, mI (mor z7 (mshl 1 z9)), mI z8, mI (mwrap (z9 + 1))], [], y2.1))))
    else none))))
  else
   (bif decide (9 < z9) then
    some (σ, z7)
   else
    (Option.bind (srun (lyT Ln) (d, 193, 0, [mR 92, mJ], [], σ)) (fun y3 =>
    (bif minb (mwrap ((mwrap (32 + (mwrap (4 * z1)))) + z8)) 52 then
    (Option.bind (srun (lyT Ln) (d, 221, 0, [mR 92, mI z1, mI (mwrap ((mwrap (40 * z3)) + z4)), mI z5, mJ, mJ], [], (mup y3.1 98 (Int.toNat (mwrap ((mwrap (32 + (mwrap (4 * z1)))) + z8))) z9))) (fun y4 =>
    (bif decide (y4.2 = 0) then
     srun (lyT Ln) ((d + 1), 223, 61, [mR 92, mI z1, mI z2, mI z3, mI z4, mI z5, mI z6, mI (mor z7 0), mI z8, mI (mwrap (z9 + 1))], [], y4.1)
    else
     srun (lyT Ln) ((d + 1), 223, 61, [mR 92, mI z1, mI z2, mI z3, mI z4, mI z5, mI z6, mI (mor z7 (mshl 1 z9)), mI z8, mI (mwrap (z9 + 1))], [], y4.1))))
    else none)))))
 else
  (bif decide (5 < z9) then
   some (σ, z7)
  else
   (Option.bind (srun (lyT Ln) (d, 193, 0, [mR 92, mJ], [], σ)) (fun y5 =>
   (bif minb (mwrap ((mwrap (32 + (mwrap (4 * z1)))) + z8)) 52 then
   (Option.bind (srun (lyT Ln) (d, 221, 0, [mR 92, mI z1, mI (mwrap ((mwrap (40 * z3)) + z4)), mI z5, mJ, mJ], [], (mup y5.1 98 (Int.toNat (mwrap ((mwrap (32 + (mwrap (4 * z1)))) + z8))) z9))) (fun y6 =>
   (bif decide (y6.2 = 0) then
    srun (lyT Ln) ((d + 1), 223, 61, [mR 92, mI z1, mI z2, mI z3, mI z4, mI z5, mI z6, mI (mor z7 0), mI z8, mI (mwrap (z9 + 1))], [], y6.1)
   else
    srun (lyT Ln) ((d + 1), 223, 61, [mR 92, mI z1, mI z2, mI z3, mI z4, mI z5, mI z6, mI (mor z7 (mshl 1 z9)), mI z8, mI (mwrap (z9 + 1))], [], y6.1))))
   else none))))) := by
  exact (srun_unr _ [61] 45 _).trans rfl
/-! GridQuarrelsModel.grids(IIIII)I: method 224; stops [36] -/
theorem b_M_grids (Ln d : Nat) (σ : mmSt) (x0 x1 x2 x3 x4 : Int) : srun (lyT Ln) ((d + 1), 224, 0, [mR 92, mI x0, mI x1, mI x2, mI x3, mI x4, mJ, mJ, mJ], [], σ) =
 (Option.bind (srun (lyT Ln) (d, 180, 0, [mR 92, mI x0], [], (mup σ 92 0 0))) (fun y1 =>
 (bif decide (y1.2 = 0) then
  some (y1.1, (-1000001))
 else
  (Option.bind (srun (lyT Ln) (d, 181, 0, [mR 92, mI x1], [], y1.1)) (fun y2 =>
  (bif decide (y2.2 = 0) then
   some (y2.1, (-1000001))
  else
   (Option.bind (srun (lyT Ln) (d, 158, 0, [mI x2], [], y2.1)) (fun y3 =>
   (bif decide (y3.2 = 0) then
    some (y3.1, (-1000001))
   else
    (Option.bind (srun (lyT Ln) (d, 156, 0, [mL x4, mJ, mL 1, mJ, mL 12, mJ], [], y3.1)) (fun y4 =>
    (bif decide (¬ y4.2 = 0) then
     (Option.bind (srun (lyT Ln) (d, 222, 0, [mR 92, mI x2, mI x3, mI x4], [], y4.1)) (fun y5 =>
     (bif decide (y5.2 = 0) then
      srun (lyT Ln) ((d + 1), 224, 36, [mR 92, mI x0, mI x1, mI x2, mI x3, mI x4, mI y5.2, mI 0, mI 0], [], y5.1)
     else
      some (y5.1, y5.2))))
    else
     some (y4.1, (-1000001)))))))))))))) := by
  exact (srun_unr _ [36] 32 _).trans rfl
theorem b_M_grids_36 (Ln d : Nat) (σ : mmSt) (z1 z2 z3 z4 z5 z6 z7 z8 : Int) : srun (lyT Ln) ((d + 1), 224, 36, [mR 92, mI z1, mI z2, mI z3, mI z4, mI z5, mI z6, mI z7, mI z8], [], σ) =
 (bif decide (10 ≤ z8) then
  some (σ, z7)
 else
  (Option.bind (srun (lyT Ln) (d, 193, 0, [mR 92, mJ], [], σ)) (fun y1 =>
  (bif minb (mwrap ((mwrap (11 + (mwrap (3 * z1)))) + 2)) 52 then
  (Option.bind (srun (lyT Ln) (d, 221, 0, [mR 92, mI z2, mI (mwrap ((mwrap (40 * z3)) + z4)), mI z5, mJ, mJ], [], (mup y1.1 98 (Int.toNat (mwrap ((mwrap (11 + (mwrap (3 * z1)))) + 2))) z8))) (fun y2 =>
  (bif decide (y2.2 = 0) then
   srun (lyT Ln) ((d + 1), 224, 36, [mR 92, mI z1, mI z2, mI z3, mI z4, mI z5, mI z6, mI (mor z7 0), mI (mwrap (z8 + 1))], [], y2.1)
  else
   srun (lyT Ln) ((d + 1), 224, 36, [mR 92, mI z1, mI z2, mI z3, mI z4, mI z5, mI z6, mI (mor z7 (mshl 1 z8)), mI (mwrap (z8 + 1))], [], y2.1))))
  else none)))) := by
  exact (srun_unr _ [36] 35 _).trans rfl
/-! GridQuarrelsModel.which(III)I: method 225; stops [33] -/
theorem b_M_which (Ln d : Nat) (σ : mmSt) (x0 x1 x2 : Int) : srun (lyT Ln) ((d + 1), 225, 0, [mR 92, mI x0, mI x1, mI x2, mJ, mJ, mJ], [], σ) =
 (Option.bind (srun (lyT Ln) (d, 178, 0, [mR 92], [], (mup σ 92 0 0))) (fun y1 =>
 (bif decide (¬ y1.2 = 0) then
  (Option.bind (srun (lyT Ln) (d, 158, 0, [mI x0], [], y1.1)) (fun y2 =>
  (bif decide (y2.2 = 0) then
   some (y2.1, (-1000001))
  else
   (Option.bind (srun (lyT Ln) (d, 156, 0, [mL x2, mJ, mL 1, mJ, mL 12, mJ], [], y2.1)) (fun y3 =>
   (bif decide (¬ y3.2 = 0) then
    (Option.bind (srun (lyT Ln) (d, 222, 0, [mR 92, mI x0, mI x1, mI x2], [], y3.1)) (fun y4 =>
    (bif decide (y4.2 = 0) then
     srun (lyT Ln) ((d + 1), 225, 33, [mR 92, mI x0, mI x1, mI x2, mI y4.2, mI 0, mI 0], [], y4.1)
    else
     some (y4.1, y4.2))))
   else
    some (y3.1, (-1000001))))))))
 else
  some (y1.1, (-1000002))))) := by
  exact (srun_unr _ [33] 27 _).trans rfl
theorem b_M_which_33 (Ln d : Nat) (σ : mmSt) (z1 z2 z3 z4 z5 z6 : Int) : srun (lyT Ln) ((d + 1), 225, 33, [mR 92, mI z1, mI z2, mI z3, mI z4, mI z5, mI z6], [], σ) =
 (bif decide ((σ 96 2) ≤ z6) then
  some (σ, z5)
 else
  (Option.bind (srun (lyT Ln) (d, 193, 0, [mR 92, mJ], [], σ)) (fun y1 =>
  (Option.bind (srun (lyT Ln) (d, 221, 0, [mR 92, mI z6, mI (mwrap ((mwrap (40 * z1)) + z2)), mI z3, mJ, mJ], [], y1.1)) (fun y2 =>
  (bif decide (y2.2 = 0) then
   srun (lyT Ln) ((d + 1), 225, 33, [mR 92, mI z1, mI z2, mI z3, mI z4, mI (mor z5 0), mI (mwrap (z6 + 1))], [], y2.1)
  else
   srun (lyT Ln) ((d + 1), 225, 33, [mR 92, mI z1, mI z2, mI z3, mI z4, mI (mor z5 (mshl 1 z6)), mI (mwrap (z6 + 1))], [], y2.1))))))) := by
  exact (srun_unr _ [33] 27 _).trans rfl
/-! GridQuarrelsModel.snow(IIIII)J: method 226; stops [35, 63, 78, 154] -/
theorem b_M_snow (Ln d : Nat) (σ : mmSt) (x0 x1 x2 x3 x4 : Int) : srun (lyT Ln) ((d + 1), 226, 0, [mR 92, mI x0, mI x1, mI x2, mI x3, mI x4, mJ, mJ, mJ, mJ, mJ, mJ, mJ, mJ, mJ, mJ, mJ], [], σ) =
 (Option.bind (srun (lyT Ln) (d, 181, 0, [mR 92, mI x0], [], (mup σ 92 0 0))) (fun y1 =>
 (bif decide (y1.2 = 0) then
  some (y1.1, (-1000001))
 else
  (Option.bind (srun (lyT Ln) (d, 179, 0, [mR 92, mI x1], [], y1.1)) (fun y2 =>
  (bif decide (y2.2 = 0) then
   some (y2.1, (-1000001))
  else
   (Option.bind (srun (lyT Ln) (d, 156, 0, [mL x2, mJ, mL 0, mJ, mL 30, mJ], [], y2.1)) (fun y3 =>
   (bif decide (y3.2 = 0) then
    some (y3.1, (-1000001))
   else
    (Option.bind (srun (lyT Ln) (d, 156, 0, [mL x3, mJ, mL 0, mJ, mL 10, mJ], [], y3.1)) (fun y4 =>
    (bif decide (y4.2 = 0) then
     some (y4.1, (-1000001))
    else
     (Option.bind (srun (lyT Ln) (d, 156, 0, [mL x4, mJ, mL 0, mJ, mL 1, mJ], [], y4.1)) (fun y5 =>
     (bif decide (¬ y5.2 = 0) then
      srun (lyT Ln) ((d + 1), 226, 35, [mR 92, mI x0, mI x1, mI x2, mI x3, mI x4, mI 0, mI 0, mJ, mJ, mJ, mJ, mJ, mJ, mJ, mJ, mJ], [], y5.1)
     else
      some (y5.1, (-1000001))))))))))))))))) := by
  exact (srun_unr _ [35, 63, 78, 154] 33 _).trans rfl
theorem b_M_snow_35 (Ln d : Nat) (σ : mmSt) (z1 z2 z3 z4 z5 z6 z7 : Int) : srun (lyT Ln) ((d + 1), 226, 35, [mR 92, mI z1, mI z2, mI z3, mI z4, mI z5, mI z6, mI z7, mJ, mJ, mJ, mJ, mJ, mJ, mJ, mJ, mJ], [], σ) =
 (bif decide ((σ 96 1) ≤ z7) then
  srun (lyT Ln) ((d + 1), 226, 63, [mR 92, mI z1, mI z2, mI z3, mI z4, mI z5, mI z6, mL 0, mJ, mL 0, mJ, mI 0, mJ, mJ, mJ, mJ, mJ], [], σ)
 else
  (Option.bind (srun (lyT Ln) (d, 185, 0, [mR 96, mI z7, mI 2], [], σ)) (fun y1 =>
  (bif decide (y1.2 ≤ 0) then
   srun (lyT Ln) ((d + 1), 226, 35, [mR 92, mI z1, mI z2, mI z3, mI z4, mI z5, mI (mor z6 0), mI (mwrap (z7 + 1)), mJ, mJ, mJ, mJ, mJ, mJ, mJ, mJ, mJ], [], y1.1)
  else
   srun (lyT Ln) ((d + 1), 226, 35, [mR 92, mI z1, mI z2, mI z3, mI z4, mI z5, mI (mor z6 (mshl 1 z7)), mI (mwrap (z7 + 1)), mJ, mJ, mJ, mJ, mJ, mJ, mJ, mJ, mJ], [], y1.1))))) := by
  exact (srun_unr _ [35, 63, 78, 154] 21 _).trans rfl
theorem b_M_snow_63 (Ln d : Nat) (σ : mmSt) (z1 z2 z3 z4 z5 z6 z7 z9 z11 : Int) (v12 v14 : mmV) : srun (lyT Ln) ((d + 1), 226, 63, [mR 92, mI z1, mI z2, mI z3, mI z4, mI z5, mI z6, mL z7, mJ, mL z9, mJ, mI z11, v12, mJ, v14, mJ, mJ], [], σ) =
 (bif decide (z6 < z11) then
  srun (lyT Ln) ((d + 1), 226, 154, [mR 92, mI z1, mI z2, mI z3, mI z4, mI z5, mI z6, mL z7, mJ, mL z9, mJ, mL z7, mJ, mL z9, mJ, mJ, mJ], [], σ)
 else
  (bif decide (¬ (mand z11 (mxor z6 (-1))) = 0) then
   srun (lyT Ln) ((d + 1), 226, 63, [mR 92, mI z1, mI z2, mI z3, mI z4, mI z5, mI z6, mL z7, mJ, mL z9, mJ, mI (mwrap (z11 + 1)), v12, mJ, v14, mJ, mJ], [], σ)
  else
   (Option.bind (srun (lyT Ln) (d, 193, 0, [mR 92, mJ], [], σ)) (fun y1 =>
   srun (lyT Ln) ((d + 1), 226, 78, [mR 92, mI z1, mI z2, mI z3, mI z4, mI z5, mI z6, mL z7, mJ, mL z9, mJ, mI z11, mL 1, mJ, mI 0, mJ, mJ], [], y1.1))))) := by
  exact (srun_unr _ [35, 63, 78, 154] 15 _).trans rfl
theorem b_M_snow_78 (Ln d : Nat) (σ : mmSt) (z1 z2 z3 z4 z5 z6 z7 z9 z11 z12 z14 : Int) : srun (lyT Ln) ((d + 1), 226, 78, [mR 92, mI z1, mI z2, mI z3, mI z4, mI z5, mI z6, mL z7, mJ, mL z9, mJ, mI z11, mL z12, mJ, mI z14, mJ, mJ], [], σ) =
 (bif decide ((σ 96 1) ≤ z14) then
  (Option.bind (srun (lyT Ln) (d, 192, 0, [mR 92, mR 98, mI z3, mJ], [], σ)) (fun y1 =>
  (Option.bind (srun (lyT Ln) (d, 187, 0, [mR 98, mI z1, mI z2], [], y1.1)) (fun y2 =>
  (bif decide (y2.2 = 0) then
   srun (lyT Ln) ((d + 1), 226, 63, [mR 92, mI z1, mI z2, mI z3, mI z4, mI z5, mI z6, mL (mwrapL (z7 + 0)), mJ, mL (mwrapL (z9 + z12)), mJ, mI (mwrap (z11 + 1)), mL z12, mJ, mI z14, mJ, mJ], [], y2.1)
  else
   srun (lyT Ln) ((d + 1), 226, 63, [mR 92, mI z1, mI z2, mI z3, mI z4, mI z5, mI z6, mL (mwrapL (z7 + z12)), mJ, mL (mwrapL (z9 + z12)), mJ, mI (mwrap (z11 + 1)), mL z12, mJ, mI z14, mJ, mJ], [], y2.1))))))
 else
  (Option.bind (srun (lyT Ln) (d, 183, 0, [mI z6, mI z14], [], σ)) (fun y3 =>
  (bif decide (¬ y3.2 = 0) then
   (Option.bind (srun (lyT Ln) (d, 183, 0, [mI z11, mI z14], [], y3.1)) (fun y4 =>
   (bif decide (y4.2 = 0) then
    (Option.bind (srun (lyT Ln) (d, 183, 0, [mI z11, mI z14], [], y4.1)) (fun y5 =>
    (bif decide (y5.2 = 0) then
     (Option.bind (srun (lyT Ln) (d, 185, 0, [mR 96, mI z14, mI 2], [], y5.1)) (fun y6 =>
     (bif minb (mwrap ((mwrap (11 + (mwrap (3 * z14)))) + 2)) 52 then
     srun (lyT Ln) ((d + 1), 226, 78, [mR 92, mI z1, mI z2, mI z3, mI z4, mI z5, mI z6, mL z7, mJ, mL z9, mJ, mI z11, mL (mwrapL (z12 * (mwrapL (10 - z4)))), mJ, mI (mwrap (z14 + 1)), mJ, mJ], [], (mup y6.1 98 (Int.toNat (mwrap ((mwrap (11 + (mwrap (3 * z14)))) + 2))) y6.2))
     else none)))
    else
     (bif minb (mwrap ((mwrap (11 + (mwrap (3 * z14)))) + 2)) 52 then
     srun (lyT Ln) ((d + 1), 226, 78, [mR 92, mI z1, mI z2, mI z3, mI z4, mI z5, mI z6, mL z7, mJ, mL z9, mJ, mI z11, mL (mwrapL (z12 * (mwrapL (10 - z4)))), mJ, mI (mwrap (z14 + 1)), mJ, mJ], [], (mup y5.1 98 (Int.toNat (mwrap ((mwrap (11 + (mwrap (3 * z14)))) + 2))) 0))
     else none))))
   else
    (Option.bind (srun (lyT Ln) (d, 183, 0, [mI z11, mI z14], [], y4.1)) (fun y7 =>
    (bif decide (y7.2 = 0) then
     (Option.bind (srun (lyT Ln) (d, 185, 0, [mR 96, mI z14, mI 2], [], y7.1)) (fun y8 =>
     (bif minb (mwrap ((mwrap (11 + (mwrap (3 * z14)))) + 2)) 52 then
     srun (lyT Ln) ((d + 1), 226, 78, [mR 92, mI z1, mI z2, mI z3, mI z4, mI z5, mI z6, mL z7, mJ, mL z9, mJ, mI z11, mL (mwrapL (z12 * z4)), mJ, mI (mwrap (z14 + 1)), mJ, mJ], [], (mup y8.1 98 (Int.toNat (mwrap ((mwrap (11 + (mwrap (3 * z14)))) + 2))) y8.2))
     else none)))
    else
     (bif minb (mwrap ((mwrap (11 + (mwrap (3 * z14)))) + 2)) 52 then
     srun (lyT Ln) ((d + 1), 226, 78, [mR 92, mI z1, mI z2, mI z3, mI z4, mI z5, mI z6, mL z7, mJ, mL z9, mJ, mI z11, mL (mwrapL (z12 * z4)), mJ, mI (mwrap (z14 + 1)), mJ, mJ], [], (mup y7.1 98 (Int.toNat (mwrap ((mwrap (11 + (mwrap (3 * z14)))) + 2))) 0))
     else none)))))))
  else
   (Option.bind (srun (lyT Ln) (d, 183, 0, [mI z11, mI z14], [], y3.1)) (fun y9 =>
   (bif decide (y9.2 = 0) then
    (Option.bind (srun (lyT Ln) (d, 185, 0, [mR 96, mI z14, mI 2], [], y9.1)) (fun y10 =>
    (bif minb (mwrap ((mwrap (11 + (mwrap (3 * z14)))) + 2)) 52 then
    srun (lyT Ln) ((d + 1), 226, 78, [mR 92, mI z1, mI z2, mI z3, mI z4, mI z5, mI z6, mL z7, mJ, mL z9, mJ, mI z11, mL (mwrapL (z12 * 1)), mJ, mI (mwrap (z14 + 1)), mJ, mJ], [], (mup y10.1 98 (Int.toNat (mwrap ((mwrap (11 + (mwrap (3 * z14)))) + 2))) y10.2))
    else none)))
   else
    (bif minb (mwrap ((mwrap (11 + (mwrap (3 * z14)))) + 2)) 52 then
    srun (lyT Ln) ((d + 1), 226, 78, [mR 92, mI z1, mI z2, mI z3, mI z4, mI z5, mI z6, mL z7, mJ, mL z9, mJ, mI z11, mL (mwrapL (z12 * 1)), mJ, mI (mwrap (z14 + 1)), mJ, mJ], [], (mup y9.1 98 (Int.toNat (mwrap ((mwrap (11 + (mwrap (3 * z14)))) + 2))) 0))
    else none)))))))) := by
  exact (srun_unr _ [35, 63, 78, 154] 42 _).trans rfl
theorem b_M_snow_154 (Ln d : Nat) (σ : mmSt) (z1 z2 z3 z4 z5 z6 z7 z9 z11 z13 : Int) (v15 : mmV) : srun (lyT Ln) ((d + 1), 226, 154, [mR 92, mI z1, mI z2, mI z3, mI z4, mI z5, mI z6, mL z7, mJ, mL z9, mJ, mL z11, mJ, mL z13, mJ, v15, mJ], [], σ) =
 (bif decide ((mlcmp z13 0) = 0) then
  (bif decide (¬ z5 = 0) then
   (bif decide (¬ z11 = 0) then
   some (σ, (mwrapL (Int.tdiv z9 z11)))
   else none)
  else
   (bif decide (¬ z11 = 0) then
   some (σ, (mwrapL (Int.tdiv z7 z11)))
   else none))
 else
  (bif decide (¬ z13 = 0) then
  srun (lyT Ln) ((d + 1), 226, 154, [mR 92, mI z1, mI z2, mI z3, mI z4, mI z5, mI z6, mL z7, mJ, mL z9, mJ, mL z13, mJ, mL (Int.tmod z11 z13), mJ, mL (Int.tmod z11 z13), mJ], [], σ)
  else none)) := by
  exact (srun_unr _ [35, 63, 78, 154] 13 _).trans rfl
/-! GridQuarrelsModel.drawn(III)I: method 227; stops [37] -/
theorem b_M_drawn (Ln d : Nat) (σ : mmSt) (x0 x1 x2 : Int) : srun (lyT Ln) ((d + 1), 227, 0, [mR 92, mI x0, mI x1, mI x2, mJ, mJ, mJ, mJ], [], σ) =
 (Option.bind (srun (lyT Ln) (d, 178, 0, [mR 92], [], (mup σ 92 0 0))) (fun y1 =>
 (bif decide (¬ y1.2 = 0) then
  (Option.bind (srun (lyT Ln) (d, 156, 0, [mL x0, mJ, mL 0, mJ, mL 60, mJ], [], y1.1)) (fun y2 =>
  (bif decide (y2.2 = 0) then
   some (y2.1, (-1000001))
  else
   (Option.bind (srun (lyT Ln) (d, 156, 0, [mL x1, mJ, mL 1, mJ, mL 999999, mJ], [], y2.1)) (fun y3 =>
   (bif decide (y3.2 = 0) then
    some (y3.1, (-1000001))
   else
    (Option.bind (srun (lyT Ln) (d, 156, 0, [mL x2, mJ, mL 0, mJ, mL 1, mJ], [], y3.1)) (fun y4 =>
    (bif decide (¬ y4.2 = 0) then
     (Option.bind (srun (lyT Ln) (d, 193, 0, [mR 92, mJ], [], y4.1)) (fun y5 =>
     srun (lyT Ln) ((d + 1), 227, 37, [mR 92, mI x0, mI x1, mI x2, mL x1, mJ, mI 0, mI 0], [], y5.1)))
    else
     some (y4.1, (-1000001)))))))))))
 else
  some (y1.1, (-1000002))))) := by
  exact (srun_unr _ [37] 33 _).trans rfl
set_option maxRecDepth 100000 in
theorem b_M_drawn_37 (Ln d : Nat) (σ : mmSt) (z1 z2 z3 z4 z6 z7 : Int) : srun (lyT Ln) ((d + 1), 227, 37, [mR 92, mI z1, mI z2, mI z3, mL z4, mJ, mI z6, mI z7], [], σ) =
 (bif decide (z1 ≤ z7) then
  (bif decide (¬ z3 = 0) then
   some (σ, z6)
  else
   (Option.bind (srun (lyT Ln) (d, 194, 0, [mR 98, mJ, mJ], [], σ)) (fun y1 =>
   some (y1.1, y1.2))))
 else
  (bif decide (¬ 2147483647 = 0) then
  (bif decide (¬ (σ 98 0) = 0) then
  (bif decide (¬ 5 = 0) then
  (Option.bind (srun (lyT Ln) (d, 195, 0, [mR 98, mI (mwrap (Int.tmod (Int.tmod (mwrapL (z4 * 16807)) 2147483647) (σ 98 0))), mI (mwrap (Int.tmod (Int.tmod (mwrapL (z4 * 16807)) 2147483647) 5)), mJ], [], σ)) (fun y2 =>
  (bif decide (¬ 6 = 0) then
  (bif decide (¬ (mlcmp (Int.tmod (Int.tmod (mwrapL (z4 * 16807)) 2147483647) 6) 0) = 0) then
   (Option.bind (srun (lyT Ln) (d, 191, 0, [mR 92, mR 98, mJ, mJ, mJ], [], y2.1)) (fun y3 =>
   srun (lyT Ln) ((d + 1), 227, 37, [mR 92, mI z1, mI z2, mI z3, mL (Int.tmod (mwrapL (z4 * 16807)) 2147483647), mJ, mI (mwrap (z6 + (y3.1 92 21))), mI (mwrap (z7 + 1))], [], y3.1)))
  else
   (bif decide (¬ (y2.1 98 1) = 0) then
   (bif minb (mwrap ((mwrap (11 + (mwrap (3 * (mwrap (Int.tmod (Int.tmod (mwrapL (z4 * 16807)) 2147483647) (y2.1 98 1))))))) + 2)) 52 then
   (Option.bind (srun (lyT Ln) (d, 191, 0, [mR 92, mR 98, mJ, mJ, mJ], [], (mup y2.1 98 (Int.toNat (mwrap ((mwrap (11 + (mwrap (3 * (mwrap (Int.tmod (Int.tmod (mwrapL (z4 * 16807)) 2147483647) (y2.1 98 1))))))) + 2))) 0))) (fun y4 =>
   srun (lyT Ln) ((d + 1), 227, 37, [mR 92, mI z1, mI z2, mI z3, mL (Int.tmod (mwrapL (z4 * 16807)) 2147483647), mJ, mI (mwrap (z6 + (y4.1 92 21))), mI (mwrap (z7 + 1))], [], y4.1)))
   else none)
   else none))
  else none)))
  else none)
  else none)
  else none)) := by
  exact (srun_unr _ [37] 59 _).trans rfl
/-! GridQuarrelsModel.image(I)I: method 228; stops [18] -/
theorem b_M_image (Ln d : Nat) (σ : mmSt) (x0 : Int) : srun (lyT Ln) ((d + 1), 228, 0, [mR 92, mI x0, mJ], [], σ) =
 (Option.bind (srun (lyT Ln) (d, 156, 0, [mL x0, mJ, mL 0, mJ, mL 1, mJ], [], (mup σ 92 0 0))) (fun y1 =>
 (bif decide (¬ y1.2 = 0) then
  (Option.bind (srun (lyT Ln) (d, 178, 0, [mR 92], [], y1.1)) (fun y2 =>
  (bif decide (¬ y2.2 = 0) then
   srun (lyT Ln) ((d + 1), 228, 18, [mR 92, mI x0, mI 0], [], y2.1)
  else
   some (y2.1, (-1000002)))))
 else
  some (y1.1, (-1000001))))) := by
  exact (srun_unr _ [18] 14 _).trans rfl
theorem b_M_image_18 (Ln d : Nat) (σ : mmSt) (z1 z2 : Int) : srun (lyT Ln) ((d + 1), 228, 18, [mR 92, mI z1, mI z2], [], σ) =
 (bif decide (52 ≤ z2) then
  (bif minb z1 2 && true then
  some ((mup σ 102 (Int.toNat z1) 1), 1)
  else none)
 else
  (bif minb z2 52 then
  (bif minb (mwrap ((mwrap (52 * z1)) + z2)) 104 then
  srun (lyT Ln) ((d + 1), 228, 18, [mR 92, mI z1, mI (mwrap (z2 + 1))], [], (mup σ 103 (Int.toNat (mwrap ((mwrap (52 * z1)) + z2))) (σ 96 (Int.toNat z2))))
  else none)
  else none)) := by
  exact (srun_unr _ [18] 17 _).trans rfl
/-! GridQuarrelsModel.restore(I)I: method 229; stops [20] -/
theorem b_M_restore (Ln d : Nat) (σ : mmSt) (x0 : Int) : srun (lyT Ln) ((d + 1), 229, 0, [mR 92, mI x0, mJ], [], σ) =
 (Option.bind (srun (lyT Ln) (d, 156, 0, [mL x0, mJ, mL 0, mJ, mL 1, mJ], [], (mup σ 92 0 0))) (fun y1 =>
 (bif decide (¬ y1.2 = 0) then
  (bif minb x0 2 then
  (bif decide (¬ (y1.1 102 (Int.toNat x0)) = 0) then
   srun (lyT Ln) ((d + 1), 229, 20, [mR 92, mI x0, mI 0], [], y1.1)
  else
   some (y1.1, (-1000002)))
  else none)
 else
  some (y1.1, (-1000001))))) := by
  exact (srun_unr _ [20] 16 _).trans rfl
theorem b_M_restore_20 (Ln d : Nat) (σ : mmSt) (z1 z2 : Int) : srun (lyT Ln) ((d + 1), 229, 20, [mR 92, mI z1, mI z2], [], σ) =
 (bif decide (52 ≤ z2) then
  some ((mup σ 92 9 0), 1)
 else
  (bif minb (mwrap ((mwrap (52 * z1)) + z2)) 104 then
  (bif minb z2 52 then
  srun (lyT Ln) ((d + 1), 229, 20, [mR 92, mI z1, mI (mwrap (z2 + 1))], [], (mup σ 96 (Int.toNat z2) (σ 103 (Int.toNat (mwrap ((mwrap (52 * z1)) + z2))))))
  else none)
  else none)) := by
  exact (srun_unr _ [20] 17 _).trans rfl
/-! GridQuarrelsModel.isOf(II)Z: method 230; stops [] -/
theorem b_M_isOf (Ln d : Nat) (σ : mmSt) (x0 x1 : Int) : srun (lyT Ln) ((d + 1), 230, 0, [mI x0, mI x1], [], σ) =
 (bif decide (x1 = 0) then
  some (σ, 1)
 else
  (bif decide (x0 = x1) then
   some (σ, 1)
  else
   (bif decide (¬ x1 = 1) then
    (bif decide (¬ x1 = 4) then
     some (σ, 0)
    else
     (bif decide (¬ x0 = 5) then
      some (σ, 0)
     else
      some (σ, 1)))
   else
    (bif decide (x0 < 4) then
     some (σ, 1)
    else
     (bif decide (¬ x1 = 4) then
      some (σ, 0)
     else
      (bif decide (¬ x0 = 5) then
       some (σ, 0)
      else
       some (σ, 1))))))) := by
  exact (srun_unr _ [] 20 _).trans rfl
/-! GridQuarrelsModel.kind(I)I: method 231; stops [] -/
theorem b_M_kind (Ln d : Nat) (σ : mmSt) (x0 : Int) : srun (lyT Ln) ((d + 1), 231, 0, [mR 92, mI x0], [], σ) =
 (Option.bind (srun (lyT Ln) (d, 181, 0, [mR 92, mI x0], [], (mup σ 92 0 0))) (fun y1 =>
 (bif decide (y1.2 = 0) then
  some (y1.1, (-1000001))
 else
  (Option.bind (srun (lyT Ln) (d, 184, 0, [mR 96, mI x0, mI 0], [], y1.1)) (fun y2 =>
  some (y2.1, y2.2)))))) := by
  exact (srun_unr _ [] 14 _).trans rfl
/-! GridQuarrelsModel.as(II)I: method 232; stops [] -/
theorem b_M_as (Ln d : Nat) (σ : mmSt) (x0 x1 : Int) : srun (lyT Ln) ((d + 1), 232, 0, [mR 92, mI x0, mI x1], [], σ) =
 (Option.bind (srun (lyT Ln) (d, 181, 0, [mR 92, mI x0], [], (mup σ 92 0 0))) (fun y1 =>
 (bif decide (y1.2 = 0) then
  some (y1.1, (-1000001))
 else
  (Option.bind (srun (lyT Ln) (d, 156, 0, [mL x1, mJ, mL 0, mJ, mL 5, mJ], [], y1.1)) (fun y2 =>
  (bif decide (¬ y2.2 = 0) then
   (Option.bind (srun (lyT Ln) (d, 184, 0, [mR 96, mI x0, mI 0], [], (mup y2.1 92 1 0))) (fun y3 =>
   (Option.bind (srun (lyT Ln) (d, 230, 0, [mI y3.2, mI x1], [], y3.1)) (fun y4 =>
   (bif decide (y4.2 = 0) then
    (Option.bind (srun (lyT Ln) (d, 157, 0, [mR 92, mI 3], [], y4.1)) (fun y5 =>
    some (y5.1, y5.2)))
   else
    some (y4.1, x0))))))
  else
   some (y2.1, (-1000001)))))))) := by
  exact (srun_unr _ [] 28 _).trans rfl
/-! GridQuarrelsModel.began(I)V: method 233; stops [] -/
theorem b_M_began (Ln d : Nat) (σ : mmSt) (x0 : Int) : srun (lyT Ln) ((d + 1), 233, 0, [mR 92, mI x0], [], σ) =
 (bif decide (16 ≤ (σ 92 26)) then
  some (σ, 0)
 else
  (bif minb (σ 92 26) 16 then
  some ((mup (mup σ 104 (Int.toNat (σ 92 26)) x0) 92 26 (mwrap (((mup σ 104 (Int.toNat (σ 92 26)) x0) 92 26) + 1))), 0)
  else none)) := by
  exact (srun_unr _ [] 17 _).trans rfl
/-! GridQuarrelsModel.plainSize(I)I: method 234; stops [] -/
theorem b_M_plainSize (Ln d : Nat) (σ : mmSt) (x0 : Int) : srun (lyT Ln) ((d + 1), 234, 0, [mR 92, mI x0], [], σ) =
 (Option.bind (srun (lyT Ln) (d, 233, 0, [mR 92, mI 10], [], σ)) (fun y1 =>
 (Option.bind (srun (lyT Ln) (d, 184, 0, [mR 96, mI x0, mI 2], [], y1.1)) (fun y2 =>
 some (y2.1, y2.2))))) := by
  exact (srun_unr _ [] 9 _).trans rfl
/-! GridQuarrelsModel.bullSize(I)I: method 235; stops [] -/
theorem b_M_bullSize (Ln d : Nat) (σ : mmSt) (x0 : Int) : srun (lyT Ln) ((d + 1), 235, 0, [mR 92, mI x0, mJ, mJ], [], σ) =
 (Option.bind (srun (lyT Ln) (d, 184, 0, [mR 96, mI x0, mI 0], [], σ)) (fun y1 =>
 (bif decide (¬ y1.2 = 5) then
  (Option.bind (srun (lyT Ln) (d, 233, 0, [mR 92, mI 13], [], y1.1)) (fun y2 =>
  (Option.bind (srun (lyT Ln) (d, 234, 0, [mR 92, mI x0], [], y2.1)) (fun y3 =>
  some (y3.1, (mwrap (y3.2 - 100)))))))
 else
  (Option.bind (srun (lyT Ln) (d, 233, 0, [mR 92, mI 14], [], y1.1)) (fun y4 =>
  (Option.bind (srun (lyT Ln) (d, 233, 0, [mR 92, mI 13], [], y4.1)) (fun y5 =>
  (Option.bind (srun (lyT Ln) (d, 234, 0, [mR 92, mI x0], [], y5.1)) (fun y6 =>
  some (y6.1, (mwrap (2 * (mwrap (y6.2 - 100)))))))))))))) := by
  exact (srun_unr _ [] 31 _).trans rfl
/-! GridQuarrelsModel.markOf(I)I: method 236; stops [] -/
theorem b_M_markOf (Ln d : Nat) (σ : mmSt) (x0 : Int) : srun (lyT Ln) ((d + 1), 236, 0, [mR 92, mI x0, mJ, mJ], [], σ) =
 (Option.bind (srun (lyT Ln) (d, 184, 0, [mR 96, mI x0, mI 0], [], σ)) (fun y1 =>
 (bif decide (y1.2 < 4) then
  (bif decide (y1.2 = 1) then
   (Option.bind (srun (lyT Ln) (d, 233, 0, [mR 92, mI 21], [], y1.1)) (fun y2 =>
   (Option.bind (srun (lyT Ln) (d, 233, 0, [mR 92, mI 20], [], y2.1)) (fun y3 =>
   (Option.bind (srun (lyT Ln) (d, 184, 0, [mR 96, mI x0, mI 1], [], y3.1)) (fun y4 =>
   (bif decide (¬ y1.2 = 1) then
    (bif decide (¬ y1.2 = 3) then
     some (y4.1, (mwrap (2 * (mwrap (x0 + y4.2)))))
    else
     some (y4.1, (mwrap ((mwrap (x0 + y4.2)) - 1000))))
   else
    some (y4.1, (mwrap (x0 + y4.2))))))))))
  else
   (bif decide (¬ y1.2 = 3) then
    (Option.bind (srun (lyT Ln) (d, 233, 0, [mR 92, mI 24], [], y1.1)) (fun y5 =>
    (Option.bind (srun (lyT Ln) (d, 233, 0, [mR 92, mI 21], [], y5.1)) (fun y6 =>
    (Option.bind (srun (lyT Ln) (d, 233, 0, [mR 92, mI 20], [], y6.1)) (fun y7 =>
    (Option.bind (srun (lyT Ln) (d, 184, 0, [mR 96, mI x0, mI 1], [], y7.1)) (fun y8 =>
    (bif decide (¬ y1.2 = 1) then
     (bif decide (¬ y1.2 = 3) then
      some (y8.1, (mwrap (2 * (mwrap (x0 + y8.2)))))
     else
      some (y8.1, (mwrap ((mwrap (x0 + y8.2)) - 1000))))
    else
     some (y8.1, (mwrap (x0 + y8.2))))))))))))
   else
    (Option.bind (srun (lyT Ln) (d, 233, 0, [mR 92, mI 22], [], y1.1)) (fun y9 =>
    (Option.bind (srun (lyT Ln) (d, 233, 0, [mR 92, mI 21], [], y9.1)) (fun y10 =>
    (Option.bind (srun (lyT Ln) (d, 233, 0, [mR 92, mI 20], [], y10.1)) (fun y11 =>
    (Option.bind (srun (lyT Ln) (d, 184, 0, [mR 96, mI x0, mI 1], [], y11.1)) (fun y12 =>
    (bif decide (¬ y1.2 = 1) then
     (bif decide (¬ y1.2 = 3) then
      some (y12.1, (mwrap (2 * (mwrap (x0 + y12.2)))))
     else
      some (y12.1, (mwrap ((mwrap (x0 + y12.2)) - 1000))))
    else
     some (y12.1, (mwrap (x0 + y12.2))))))))))))))
 else
  (Option.bind (srun (lyT Ln) (d, 233, 0, [mR 92, mI 23], [], y1.1)) (fun y13 =>
  (Option.bind (srun (lyT Ln) (d, 233, 0, [mR 92, mI 20], [], y13.1)) (fun y14 =>
  (Option.bind (srun (lyT Ln) (d, 235, 0, [mR 92, mI x0, mJ, mJ], [], y14.1)) (fun y15 =>
  some (y15.1, (mwrap (x0 - y15.2)))))))))))) := by
  exact (srun_unr _ [] 44 _).trans rfl
/-! GridQuarrelsModel.sizeOf(I)I: method 237; stops [] -/
theorem b_M_sizeOf (Ln d : Nat) (σ : mmSt) (x0 : Int) : srun (lyT Ln) ((d + 1), 237, 0, [mR 92, mI x0, mJ, mJ], [], σ) =
 (Option.bind (srun (lyT Ln) (d, 184, 0, [mR 96, mI x0, mI 0], [], σ)) (fun y1 =>
 (bif decide (y1.2 < 4) then
  (bif decide (¬ y1.2 = 2) then
   (Option.bind (srun (lyT Ln) (d, 233, 0, [mR 92, mI 11], [], y1.1)) (fun y2 =>
   (Option.bind (srun (lyT Ln) (d, 234, 0, [mR 92, mI x0], [], y2.1)) (fun y3 =>
   (Option.bind (srun (lyT Ln) (d, 236, 0, [mR 92, mI x0, mJ, mJ], [], y3.1)) (fun y4 =>
   (bif decide (¬ y1.2 = 2) then
    some (y4.1, (mwrap (y3.2 + y4.2)))
   else
    some (y4.1, (mwrap (-(mwrap (y3.2 + y4.2))))))))))))
  else
   (Option.bind (srun (lyT Ln) (d, 233, 0, [mR 92, mI 12], [], y1.1)) (fun y5 =>
   (Option.bind (srun (lyT Ln) (d, 233, 0, [mR 92, mI 11], [], y5.1)) (fun y6 =>
   (Option.bind (srun (lyT Ln) (d, 234, 0, [mR 92, mI x0], [], y6.1)) (fun y7 =>
   (Option.bind (srun (lyT Ln) (d, 236, 0, [mR 92, mI x0, mJ, mJ], [], y7.1)) (fun y8 =>
   (bif decide (¬ y1.2 = 2) then
    some (y8.1, (mwrap (y7.2 + y8.2)))
   else
    some (y8.1, (mwrap (-(mwrap (y7.2 + y8.2)))))))))))))))
 else
  (Option.bind (srun (lyT Ln) (d, 235, 0, [mR 92, mI x0, mJ, mJ], [], y1.1)) (fun y9 =>
  some (y9.1, y9.2)))))) := by
  exact (srun_unr _ [] 35 _).trans rfl
/-! GridQuarrelsModel.ask(II)I: method 238; stops [] -/
theorem b_M_ask (Ln d : Nat) (σ : mmSt) (x0 x1 : Int) : srun (lyT Ln) ((d + 1), 238, 0, [mR 92, mI x0, mI x1], [], σ) =
 (Option.bind (srun (lyT Ln) (d, 181, 0, [mR 92, mI x0], [], (mup σ 92 0 0))) (fun y1 =>
 (bif decide (y1.2 = 0) then
  some (y1.1, (-1000001))
 else
  (Option.bind (srun (lyT Ln) (d, 156, 0, [mL x1, mJ, mL 0, mJ, mL 1, mJ], [], y1.1)) (fun y2 =>
  (bif decide (¬ y2.2 = 0) then
   (bif decide (¬ x1 = 0) then
    (Option.bind (srun (lyT Ln) (d, 236, 0, [mR 92, mI x0, mJ, mJ], [], (mup y2.1 92 26 0))) (fun y3 =>
    some (y3.1, y3.2)))
   else
    (Option.bind (srun (lyT Ln) (d, 237, 0, [mR 92, mI x0, mJ, mJ], [], (mup y2.1 92 26 0))) (fun y4 =>
    some (y4.1, y4.2))))
  else
   some (y2.1, (-1000001)))))))) := by
  exact (srun_unr _ [] 23 _).trans rfl
/-! GridQuarrelsModel.trace(I)I: method 239; stops [] -/
theorem b_M_trace (Ln d : Nat) (σ : mmSt) (x0 : Int) : srun (lyT Ln) ((d + 1), 239, 0, [mR 92, mI x0], [], σ) =
 (Option.bind (srun (lyT Ln) (d, 156, 0, [mL x0, mJ, mL 0, mJ, mL (mwrap (((mup σ 92 0 0) 92 26) - 1)), mJ], [], (mup σ 92 0 0))) (fun y1 =>
 (bif decide (y1.2 = 0) then
  some (y1.1, (-1000000))
 else
  (bif minb x0 16 then
  some (y1.1, (y1.1 104 (Int.toNat x0)))
  else none)))) := by
  exact (srun_unr _ [] 19 _).trans rfl
/-! GridQuarrelsModel.count(I)I: method 240; stops [9, 49] -/
theorem b_M_count (Ln d : Nat) (σ : mmSt) (x0 : Int) : srun (lyT Ln) ((d + 1), 240, 0, [mR 92, mI x0, mJ, mJ], [], σ) =
 (bif decide (x0 = 0) then
 srun (lyT Ln) ((d + 1), 240, 9, [mR 92, mI x0, mI 0, mI 0], [], (mup σ 92 0 0))
 else
 (bif decide (x0 = 1) then
 some ((mup σ 92 0 0), ((mup σ 92 0 0) 96 0))
 else
 (bif decide (x0 = 2) then
 some ((mup σ 92 0 0), ((mup σ 92 0 0) 96 1))
 else
 (bif decide (x0 = 3) then
 some ((mup σ 92 0 0), ((mup σ 92 0 0) 96 2))
 else
 (bif decide (x0 = 4) then
 some ((mup σ 92 0 0), ((mup σ 92 0 0) 96 3))
 else
 (bif decide (x0 = 5) then
 srun (lyT Ln) ((d + 1), 240, 49, [mR 92, mI x0, mI 0, mI 0], [], (mup σ 92 0 0))
 else
 (bif decide (x0 = 6) then
 some ((mup σ 92 0 0), ((mup σ 92 0 0) 92 9))
 else
 (bif decide (x0 = 7) then
 some ((mup σ 92 0 0), ((mup σ 92 0 0) 92 11))
 else
 some ((mup σ 92 0 0), (-1000001)))))))))) := by
  exact (srun_unr _ [9, 49] 12 _).trans rfl
theorem b_M_count_9 (Ln d : Nat) (σ : mmSt) (z1 z2 z3 : Int) : srun (lyT Ln) ((d + 1), 240, 9, [mR 92, mI z1, mI z2, mI z3], [], σ) =
 (bif decide (8 ≤ z3) then
  some (σ, z2)
 else
  (bif minb z3 8 then
  (bif decide ((σ 93 (Int.toNat z3)) < 0) then
   srun (lyT Ln) ((d + 1), 240, 9, [mR 92, mI z1, mI (mwrap (z2 + 0)), mI (mwrap (z3 + 1))], [], σ)
  else
   srun (lyT Ln) ((d + 1), 240, 9, [mR 92, mI z1, mI (mwrap (z2 + 1)), mI (mwrap (z3 + 1))], [], σ))
  else none)) := by
  exact (srun_unr _ [9, 49] 15 _).trans rfl
theorem b_M_count_49 (Ln d : Nat) (σ : mmSt) (z1 z2 z3 : Int) : srun (lyT Ln) ((d + 1), 240, 49, [mR 92, mI z1, mI z2, mI z3], [], σ) =
 (bif decide (7 ≤ z3) then
  some (σ, z2)
 else
  (bif minb (mwrap (4 + z3)) 52 then
  srun (lyT Ln) ((d + 1), 240, 49, [mR 92, mI z1, mI (mwrap (z2 + (σ 96 (Int.toNat (mwrap (4 + z3)))))), mI (mwrap (z3 + 1))], [], σ)
  else none)) := by
  exact (srun_unr _ [9, 49] 14 _).trans rfl
/-! GridQuarrelsModel.status()I: method 241; stops [] -/
theorem b_M_status (Ln d : Nat) (σ : mmSt) : srun (lyT Ln) ((d + 1), 241, 0, [mR 92], [], σ) =
 some ((mup σ 92 0 0), ((mup σ 92 0 0) 92 1)) := by
  exact (srun_unr _ [] 6 _).trans rfl
