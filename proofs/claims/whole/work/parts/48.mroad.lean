/-! county: the model reads a road, a quarrel -/
def frL (σ σ' : mmSt) : Prop := ∀ b j, ¬ (b = 97 ∨ (b = 92 ∧ 12 ≤ j ∧ j ≤ 17)) → σ' b j = σ b j
theorem frL_trans {a b c : mmSt} (h : frL a b) (k : frL b c) : frL a c := fun x j q => (k x j q).trans (h x j q)
theorem frK_L {a b : mmSt} (h : frK a b) : frL a b := fun x j q => h x j (by omega)
theorem frK_97 {a b : mmSt} (h : frK a b) : b 97 = a 97 := funext fun j => h 97 j (by omega)
theorem RM_L {n : Int} {tp : Nat → Int} {σ σ' : mmSt} {s : Int × Int} (r : RM n tp σ s) (f : ∀ b j, b ≠ 97 → σ' b j = σ b j) : RM n tp σ' s := by
  unfold RM TM at r ⊢
  simp only [f 92 11 (by omega), f 92 12 (by omega), f 92 13 (by omega), f 92 14 (by omega), f 92 15 (by omega), f 92 16 (by omega), f 92 17 (by omega), f 100 _ (by omega)]
  exact r
theorem num_no {n : Int} {tp : Nat → Int} (ht : ∀ j : Nat, (j : Int) < n → 0 ≤ tp j ∧ tp j ≤ 255) (p : Int) : numV (byB n tp) n p ≠ -1000000 := by
  have a := by_rng ht p
  have b := by_rng ht (p + 1)
  unfold numV
  split <;> omega
theorem rep_mkM {g : Nat → Int} {C : Cty} (e0 : g 0 = C 0 0) (e1 : g 1 = C 1 0) (e2 : g 2 = C 2 0) (e3 : g 3 = C 3 0) (e4 : ∀ p : Int, 0 ≤ p → p < 7 → g (Int.toNat (4 + p)) = C 4 p) (e5 : ∀ p : Int, 0 ≤ p → p < C 1 0 → g (Int.toNat (11 + 3 * p + 0)) = C 5 p ∧ g (Int.toNat (11 + 3 * p + 1)) = C 6 p ∧ g (Int.toNat (11 + 3 * p + 2)) = C 7 p) (e8 : ∀ p : Int, 0 ≤ p → p < C 2 0 → g (Int.toNat (32 + 4 * p + 0)) = C 8 p ∧ g (Int.toNat (32 + 4 * p + 1)) = C 9 p ∧ g (Int.toNat (32 + 4 * p + 2)) = C 10 p ∧ g (Int.toNat (32 + 4 * p + 3)) = C 11 p) : rep 12 (cM g) C := by
  intro f i hf h0 h1
  have h : f = 0 ∨ f = 1 ∨ f = 2 ∨ f = 3 ∨ f = 4 ∨ f = 5 ∨ f = 6 ∨ f = 7 ∨ f = 8 ∨ f = 9 ∨ f = 10 ∨ f = 11 := by omega
  rcases h with rfl | rfl | rfl | rfl | rfl | rfl | rfl | rfl | rfl | rfl | rfl | rfl
  · rw [show i = 0 from by have : i < 1 := h1; omega]; exact e0
  · rw [show i = 0 from by have : i < 1 := h1; omega]; exact e1
  · rw [show i = 0 from by have : i < 1 := h1; omega]; exact e2
  · rw [show i = 0 from by have : i < 1 := h1; omega]; exact e3
  · exact e4 i h0 h1
  · exact (e5 i h0 h1).1
  · exact (e5 i h0 h1).2.1
  · exact (e5 i h0 h1).2.2
  · exact (e8 i h0 h1).1
  · exact (e8 i h0 h1).2.1
  · exact (e8 i h0 h1).2.2.1
  · exact (e8 i h0 h1).2.2.2
theorem m_addR {σ : mmSt} {D : Cty} (h : rep 12 (cM (σ 97)) D) (r0 : 0 ≤ D 1 0) (r1 : D 1 0 < 7) (a b g : Int) : rep 12 (cM ((mup (mup (mup (mup σ 97 (Int.toNat (11 + 3 * D 1 0)) a) 97 (Int.toNat (11 + 3 * D 1 0 + 1)) b) 97 (Int.toNat (11 + 3 * D 1 0 + 2)) g) 97 1 (D 1 0 + 1)) 97)) (addR D a b g) := by
  unfold addR
  refine rep_mkM ?_ ?_ ?_ ?_ (fun i i0 i1 => ?_) (fun i i0 i1 => ?_) (fun i i0 i1 => ?_)
  · simp (discharger := omega) only [mup_ne, cup_nf]; exact m0 h
  · simp (discharger := omega) only [mup_eq, cup_eq]
  · simp (discharger := omega) only [mup_ne, cup_nf]; exact m2 h
  · simp (discharger := omega) only [mup_ne, cup_nf]; exact m3 h
  · simp (discharger := omega) only [mup_ne, cup_nf]; exact m4 h i i0 i1
  · rw [cup_eq] at i1
    simp (discharger := omega) only [cup_nf]
    by_cases c : i = D 1 0
    · subst c
      simp only [cup_eq]
      refine ⟨?_, ?_, ?_⟩
      · simp (discharger := omega) only [mup_ne]; rw [mup_ap, if_pos (by omega)]
      · simp (discharger := omega) only [mup_ne]; rw [mup_ap, if_pos (by omega)]
      · simp (discharger := omega) only [mup_ne]; rw [mup_ap, if_pos (by omega)]
    · simp (discharger := omega) only [cup_ni, cup_nf, mup_ne]
      exact ⟨m5 h i i0 (by omega), m6 h i i0 (by omega), m7 h i i0 (by omega)⟩
  · simp (discharger := omega) only [cup_nf] at i1
    simp (discharger := omega) only [mup_ne, cup_nf]
    exact ⟨m8 h i i0 i1, m9 h i i0 i1, m10 h i i0 i1, m11 h i i0 i1⟩
theorem m_addQ {σ : mmSt} {D : Cty} (h : rep 12 (cM (σ 97)) D) (q0 : 0 ≤ D 2 0) (q1 : D 2 0 < 5) (w : D 1 0 ≤ 7) (k a z b : Int) : rep 12 (cM ((mup (mup (mup (mup (mup σ 97 (Int.toNat (32 + 4 * D 2 0)) k) 97 (Int.toNat (32 + 4 * D 2 0 + 1)) a) 97 (Int.toNat (32 + 4 * D 2 0 + 2)) z) 97 (Int.toNat (32 + 4 * D 2 0 + 3)) b) 97 2 (D 2 0 + 1)) 97)) (addQ D k a z b) := by
  unfold addQ
  refine rep_mkM ?_ ?_ ?_ ?_ (fun i i0 i1 => ?_) (fun i i0 i1 => ?_) (fun i i0 i1 => ?_)
  · simp (discharger := omega) only [mup_ne, cup_nf]; exact m0 h
  · simp (discharger := omega) only [mup_ne, cup_nf]; exact m1 h
  · simp (discharger := omega) only [mup_eq, cup_eq]
  · simp (discharger := omega) only [mup_ne, cup_nf]; exact m3 h
  · simp (discharger := omega) only [mup_ne, cup_nf]; exact m4 h i i0 i1
  · simp (discharger := omega) only [cup_nf] at i1
    simp (discharger := omega) only [mup_ne, cup_nf]
    exact ⟨m5 h i i0 i1, m6 h i i0 i1, m7 h i i0 i1⟩
  · rw [cup_eq] at i1
    simp (discharger := omega) only [cup_nf]
    by_cases c : i = D 2 0
    · subst c
      simp only [cup_eq]
      refine ⟨?_, ?_, ?_, ?_⟩
      · simp (discharger := omega) only [mup_ne]; rw [mup_ap, if_pos (by omega)]
      · simp (discharger := omega) only [mup_ne]; rw [mup_ap, if_pos (by omega)]
      · simp (discharger := omega) only [mup_ne]; rw [mup_ap, if_pos (by omega)]
      · simp (discharger := omega) only [mup_ne]; rw [mup_ap, if_pos (by omega)]
    · simp (discharger := omega) only [cup_ni, cup_nf, mup_ne]
      exact ⟨m8 h i i0 (by omega), m9 h i i0 (by omega), m10 h i i0 (by omega), m11 h i i0 (by omega)⟩
theorem m_roadW {Ln d : Nat} {n : Int} {tp : Nat → Int} (ht : ∀ j : Nat, (j : Int) < n → 0 ≤ tp j ∧ tp j ≤ 255) (hn : n ≤ 120) (hd : 4 ≤ d) {D : Cty} (r0 : 0 ≤ D 1 0) {σ5 : mmSt} {s0 : Int × Int} {a v : Int} (r : RM n tp σ5 (rdW (byB n tp) n (D 0 0) s0).2) (hv : (rdW (byB n tp) n (D 0 0) s0).2.1 = 0 → v = (rdW (byB n tp) n (D 0 0) s0).1 ∧ a = (rdU (byB n tp) n (D 0 0) s0).1) (h : rep 12 (cM (σ5 97)) D) (h7 : (rdE (byB n tp) n (D 0 0) s0).1 = 0 → D 1 0 < 7) : ∃ σ', ((Option.bind (srun (lyT Ln) (d, 169, 0, [mR 92, mI 44], [], σ5)) (fun y6 =>
   (Option.bind (srun (lyT Ln) (d, 168, 0, [mR 92, mI 0, mI 9, mJ], [], y6.1)) (fun y7 =>
   (Option.bind (srun (lyT Ln) (d, 169, 0, [mR 92, mI 59], [], y7.1)) (fun y8 =>
   (bif decide (¬ (y8.1 92 16) = 0) then
    some (y8.1, 0)
   else
    (bif minb (mwrap (11 + (mwrap (3 * (y8.1 97 1))))) 52 then
    (bif minb (mwrap ((mwrap (11 + (mwrap (3 * (y8.1 97 1))))) + 1)) 52 then
    (bif minb (mwrap ((mwrap (11 + (mwrap (3 * (y8.1 97 1))))) + 2)) 52 then
    some ((mup (mup (mup (mup y8.1 97 (Int.toNat (mwrap (11 + (mwrap (3 * (y8.1 97 1)))))) a) 97 (Int.toNat (mwrap ((mwrap (11 + (mwrap (3 * (y8.1 97 1))))) + 1))) v) 97 (Int.toNat (mwrap ((mwrap (11 + (mwrap (3 * (y8.1 97 1))))) + 2))) y7.2) 97 1 (mwrap (((mup (mup (mup y8.1 97 (Int.toNat (mwrap (11 + (mwrap (3 * (y8.1 97 1)))))) a) 97 (Int.toNat (mwrap ((mwrap (11 + (mwrap (3 * (y8.1 97 1))))) + 1))) v) 97 (Int.toNat (mwrap ((mwrap (11 + (mwrap (3 * (y8.1 97 1))))) + 2))) y7.2) 97 1) + 1))), 0)
    else none)
    else none)
    else none)))))))) : Option mmY) = some (σ', 0) ∧ RM n tp σ' (rdE (byB n tp) n (D 0 0) s0) ∧ rep 12 (cM (σ' 97)) (if (rdE (byB n tp) n (D 0 0) s0).1 = 0 then addR D (rdU (byB n tp) n (D 0 0) s0).1 (rdW (byB n tp) n (D 0 0) s0).1 (rdG (byB n tp) n (D 0 0) s0).1 else D) ∧ frL σ5 σ' := by
  obtain ⟨σ6, e6, r6, f6⟩ := m_sgn (Ln := Ln) ht hn r hd (show (44 : Int) = 44 ∨ (44 : Int) = 59 by omega)
  obtain ⟨σ7, g, e7, r7, hg, f7⟩ := m_num (Ln := Ln) ht hn r6 hd 0 9 (-1000000) (fun _ _ => num_no ht _)
  obtain ⟨σ8, e8, r8, f8⟩ := m_sgn (Ln := Ln) ht hn r7 hd (show (59 : Int) = 44 ∨ (59 : Int) = 59 by omega)
  have f58 : frK σ5 σ8 := frK_trans f6 (frK_trans f7 f8)
  have r8' : RM n tp σ8 (rdE (byB n tp) n (D 0 0) s0) := r8
  have hr : rep 12 (cM (σ8 97)) D := by rw [frK_97 f58]; exact h
  simp only [e6, e7, e8, Option.bind_some]
  by_cases hz : (rdE (byB n tp) n (D 0 0) s0).1 = 0
  · have k7 := h7 hz
    have z7 : (rdG (byB n tp) n (D 0 0) s0).2.1 = 0 := ex_ok (c := 59) hz
    have z5 : (rdW (byB n tp) n (D 0 0) s0).2.1 = 0 := ex_ok (c := 44) (nu_ok (lo := 0) (hi := 9) (bar := -1000000) z7).1
    rw [decide_eq_false (show ¬ ¬ σ8 92 16 = 0 by rw [r8'.2.1]; omega), cond_false, if_pos hz]
    simp (discharger := omega) only [m1 hr, mup_ne, mw, minb_t (n := 52), cond_true]
    refine ⟨_, rfl, RM_L r8' (fun b j q => by simp (discharger := omega) only [mup_ne]), ?_, fun b j q => ?_⟩
    · rw [(hv z5).1, (hv z5).2, hg z7]
      exact m_addR hr r0 k7 _ _ _
    · rw [mup_ne (by omega), mup_ne (by omega), mup_ne (by omega), mup_ne (by omega)]; exact f58 b j (by omega)
  · rw [decide_eq_true (show ¬ σ8 92 16 = 0 by rw [r8'.2.1]; exact hz), cond_true, if_neg hz]
    exact ⟨σ8, rfl, r8', hr, frK_L f58⟩
theorem m_roadT {Ln d : Nat} {n : Int} {tp : Nat → Int} (ht : ∀ j : Nat, (j : Int) < n → 0 ≤ tp j ∧ tp j ≤ 255) (hn : n ≤ 120) (hd : 4 ≤ d) {D : Cty} (b0 : 0 ≤ D 0 0) (b7 : D 0 0 ≤ 7) (r0 : 0 ≤ D 1 0) {σ0 : mmSt} {s0 : Int × Int} (r : RM n tp σ0 s0) (h : rep 12 (cM (σ0 97)) D) (h7 : (rdE (byB n tp) n (D 0 0) s0).1 = 0 → D 1 0 < 7) : ∃ σ', ((Option.bind (srun (lyT Ln) (d, 167, 0, [mR 92, mI 114], [], σ0)) (fun y1 =>
  (Option.bind (srun (lyT Ln) (d, 166, 0, [mR 92, mI y1.2], [], y1.1)) (fun y2 =>
  (Option.bind (srun (lyT Ln) (d, 168, 0, [mR 92, mI 0, mI (mwrap ((y2.1 97 0) - 1)), mJ], [], y2.1)) (fun y3 =>
  (Option.bind (srun (lyT Ln) (d, 169, 0, [mR 92, mI 44], [], y3.1)) (fun y4 =>
  (bif decide (¬ (y4.1 92 16) = 0) then
   (Option.bind (srun (lyT Ln) (d, 168, 0, [mR 92, mI 0, mI (mwrap ((y4.1 97 0) - 1)), mJ], [], y4.1)) (fun y5 =>
   (Option.bind (srun (lyT Ln) (d, 169, 0, [mR 92, mI 44], [], y5.1)) (fun y6 =>
   (Option.bind (srun (lyT Ln) (d, 168, 0, [mR 92, mI 0, mI 9, mJ], [], y6.1)) (fun y7 =>
   (Option.bind (srun (lyT Ln) (d, 169, 0, [mR 92, mI 59], [], y7.1)) (fun y8 =>
   (bif decide (¬ (y8.1 92 16) = 0) then
    some (y8.1, 0)
   else
    (bif minb (mwrap (11 + (mwrap (3 * (y8.1 97 1))))) 52 then
    (bif minb (mwrap ((mwrap (11 + (mwrap (3 * (y8.1 97 1))))) + 1)) 52 then
    (bif minb (mwrap ((mwrap (11 + (mwrap (3 * (y8.1 97 1))))) + 2)) 52 then
    some ((mup (mup (mup (mup y8.1 97 (Int.toNat (mwrap (11 + (mwrap (3 * (y8.1 97 1)))))) y3.2) 97 (Int.toNat (mwrap ((mwrap (11 + (mwrap (3 * (y8.1 97 1))))) + 1))) y5.2) 97 (Int.toNat (mwrap ((mwrap (11 + (mwrap (3 * (y8.1 97 1))))) + 2))) y7.2) 97 1 (mwrap (((mup (mup (mup y8.1 97 (Int.toNat (mwrap (11 + (mwrap (3 * (y8.1 97 1)))))) y3.2) 97 (Int.toNat (mwrap ((mwrap (11 + (mwrap (3 * (y8.1 97 1))))) + 1))) y5.2) 97 (Int.toNat (mwrap ((mwrap (11 + (mwrap (3 * (y8.1 97 1))))) + 2))) y7.2) 97 1) + 1))), 0)
    else none)
    else none)
    else none))))))))))
  else
   (bif decide (¬ (y4.1 92 14) = 3) then
    (Option.bind (srun (lyT Ln) (d, 168, 0, [mR 92, mI 0, mI (mwrap ((y4.1 97 0) - 1)), mJ], [], y4.1)) (fun y9 =>
    (Option.bind (srun (lyT Ln) (d, 169, 0, [mR 92, mI 44], [], y9.1)) (fun y10 =>
    (Option.bind (srun (lyT Ln) (d, 168, 0, [mR 92, mI 0, mI 9, mJ], [], y10.1)) (fun y11 =>
    (Option.bind (srun (lyT Ln) (d, 169, 0, [mR 92, mI 59], [], y11.1)) (fun y12 =>
    (bif decide (¬ (y12.1 92 16) = 0) then
     some (y12.1, 0)
    else
     (bif minb (mwrap (11 + (mwrap (3 * (y12.1 97 1))))) 52 then
     (bif minb (mwrap ((mwrap (11 + (mwrap (3 * (y12.1 97 1))))) + 1)) 52 then
     (bif minb (mwrap ((mwrap (11 + (mwrap (3 * (y12.1 97 1))))) + 2)) 52 then
     some ((mup (mup (mup (mup y12.1 97 (Int.toNat (mwrap (11 + (mwrap (3 * (y12.1 97 1)))))) y3.2) 97 (Int.toNat (mwrap ((mwrap (11 + (mwrap (3 * (y12.1 97 1))))) + 1))) y9.2) 97 (Int.toNat (mwrap ((mwrap (11 + (mwrap (3 * (y12.1 97 1))))) + 2))) y11.2) 97 1 (mwrap (((mup (mup (mup y12.1 97 (Int.toNat (mwrap (11 + (mwrap (3 * (y12.1 97 1)))))) y3.2) 97 (Int.toNat (mwrap ((mwrap (11 + (mwrap (3 * (y12.1 97 1))))) + 1))) y9.2) 97 (Int.toNat (mwrap ((mwrap (11 + (mwrap (3 * (y12.1 97 1))))) + 2))) y11.2) 97 1) + 1))), 0)
     else none)
     else none)
     else none))))))))))
   else
    (bif decide (¬ (y4.1 92 15) = y3.2) then
     (Option.bind (srun (lyT Ln) (d, 168, 0, [mR 92, mI 0, mI (mwrap ((y4.1 97 0) - 1)), mJ], [], y4.1)) (fun y13 =>
     (Option.bind (srun (lyT Ln) (d, 169, 0, [mR 92, mI 44], [], y13.1)) (fun y14 =>
     (Option.bind (srun (lyT Ln) (d, 168, 0, [mR 92, mI 0, mI 9, mJ], [], y14.1)) (fun y15 =>
     (Option.bind (srun (lyT Ln) (d, 169, 0, [mR 92, mI 59], [], y15.1)) (fun y16 =>
     (bif decide (¬ (y16.1 92 16) = 0) then
      some (y16.1, 0)
     else
      (bif minb (mwrap (11 + (mwrap (3 * (y16.1 97 1))))) 52 then
      (bif minb (mwrap ((mwrap (11 + (mwrap (3 * (y16.1 97 1))))) + 1)) 52 then
      (bif minb (mwrap ((mwrap (11 + (mwrap (3 * (y16.1 97 1))))) + 2)) 52 then
      some ((mup (mup (mup (mup y16.1 97 (Int.toNat (mwrap (11 + (mwrap (3 * (y16.1 97 1)))))) y3.2) 97 (Int.toNat (mwrap ((mwrap (11 + (mwrap (3 * (y16.1 97 1))))) + 1))) y13.2) 97 (Int.toNat (mwrap ((mwrap (11 + (mwrap (3 * (y16.1 97 1))))) + 2))) y15.2) 97 1 (mwrap (((mup (mup (mup y16.1 97 (Int.toNat (mwrap (11 + (mwrap (3 * (y16.1 97 1)))))) y3.2) 97 (Int.toNat (mwrap ((mwrap (11 + (mwrap (3 * (y16.1 97 1))))) + 1))) y13.2) 97 (Int.toNat (mwrap ((mwrap (11 + (mwrap (3 * (y16.1 97 1))))) + 2))) y15.2) 97 1) + 1))), 0)
      else none)
      else none)
      else none))))))))))
    else
     (Option.bind (srun (lyT Ln) (d, 164, 0, [mR 92, mI 2], [], y4.1)) (fun y17 =>
     (Option.bind (srun (lyT Ln) (d, 168, 0, [mR 92, mI 0, mI (mwrap ((y17.1 97 0) - 1)), mJ], [], y17.1)) (fun y18 =>
     (Option.bind (srun (lyT Ln) (d, 169, 0, [mR 92, mI 44], [], y18.1)) (fun y19 =>
     (Option.bind (srun (lyT Ln) (d, 168, 0, [mR 92, mI 0, mI 9, mJ], [], y19.1)) (fun y20 =>
     (Option.bind (srun (lyT Ln) (d, 169, 0, [mR 92, mI 59], [], y20.1)) (fun y21 =>
     (bif decide (¬ (y21.1 92 16) = 0) then
      some (y21.1, 0)
     else
      (bif minb (mwrap (11 + (mwrap (3 * (y21.1 97 1))))) 52 then
      (bif minb (mwrap ((mwrap (11 + (mwrap (3 * (y21.1 97 1))))) + 1)) 52 then
      (bif minb (mwrap ((mwrap (11 + (mwrap (3 * (y21.1 97 1))))) + 2)) 52 then
      some ((mup (mup (mup (mup y21.1 97 (Int.toNat (mwrap (11 + (mwrap (3 * (y21.1 97 1)))))) y3.2) 97 (Int.toNat (mwrap ((mwrap (11 + (mwrap (3 * (y21.1 97 1))))) + 1))) y18.2) 97 (Int.toNat (mwrap ((mwrap (11 + (mwrap (3 * (y21.1 97 1))))) + 2))) y20.2) 97 1 (mwrap (((mup (mup (mup y21.1 97 (Int.toNat (mwrap (11 + (mwrap (3 * (y21.1 97 1)))))) y3.2) 97 (Int.toNat (mwrap ((mwrap (11 + (mwrap (3 * (y21.1 97 1))))) + 1))) y18.2) 97 (Int.toNat (mwrap ((mwrap (11 + (mwrap (3 * (y21.1 97 1))))) + 2))) y20.2) 97 1) + 1))), 0)
      else none)
      else none)
      else none))))))))))))))))))))))) : Option mmY) = some (σ', 0) ∧ RM n tp σ' (rdE (byB n tp) n (D 0 0) s0) ∧ rep 12 (cM (σ' 97)) (if (rdE (byB n tp) n (D 0 0) s0).1 = 0 then addR D (rdU (byB n tp) n (D 0 0) s0).1 (rdW (byB n tp) n (D 0 0) s0).1 (rdG (byB n tp) n (D 0 0) s0).1 else D) ∧ frL σ0 σ' := by
  have e1 := m_ltr (Ln := Ln) r (show 1 ≤ d by omega) (show (97 : Int) ≤ 114 by omega) (show (114 : Int) ≤ 122 by omega)
  obtain ⟨σ2, e2, r2, f2⟩ := m_must (Ln := Ln) ht hn r (show 3 ≤ d by omega) (if s0.1 = 0 ∧ (byB n tp) s0.2 = 114 then 1 else 0)
  rw [mu_ltr (by omega)] at r2
  have p2 : σ2 97 0 = D 0 0 := (f2 97 0 (by omega)).trans (m0 h)
  obtain ⟨σ3, a, e3, r3, ha, f3⟩ := m_num (Ln := Ln) ht hn r2 hd 0 (D 0 0 - 1) (-1000000) (fun _ _ => num_no ht _)
  obtain ⟨σ4, e4, r4, f4⟩ := m_sgn (Ln := Ln) ht hn r3 hd (show (44 : Int) = 44 ∨ (44 : Int) = 59 by omega)
  have f04 : frK σ0 σ4 := frK_trans f2 (frK_trans f3 f4)
  have p4 : σ4 97 0 = D 0 0 := (f04 97 0 (by omega)).trans (m0 h)
  have r4' : RM n tp σ4 (exS (byB n tp) 44 (rdU (byB n tp) n (D 0 0) s0).2) := r4
  have ha' : (exS (byB n tp) 44 (rdU (byB n tp) n (D 0 0) s0).2).1 = 0 → a = (rdU (byB n tp) n (D 0 0) s0).1 := fun q => ha (ex_ok q)
  have s4 : (rdW (byB n tp) n (D 0 0) s0).2.1 = 0 → (exS (byB n tp) 44 (rdU (byB n tp) n (D 0 0) s0).2).1 = 0 := fun q => (nu_ok (lo := 0) (hi := D 0 0 - 1) (bar := (rdU (byB n tp) n (D 0 0) s0).1) q).1
  simp only [e1, e2, Option.bind_some, p2, mw (show -2147483648 ≤ D 0 0 - 1 by omega) (show D 0 0 - 1 < 2147483648 by omega), e3, e4, p4]
  have go : (σ4 92 16 = 0 → fig (byB n tp) n (exS (byB n tp) 44 (rdU (byB n tp) n (D 0 0) s0).2).2 = 1 ∨ fig (byB n tp) n (exS (byB n tp) 44 (rdU (byB n tp) n (D 0 0) s0).2).2 = 2 → numV (byB n tp) n (exS (byB n tp) 44 (rdU (byB n tp) n (D 0 0) s0).2).2 ≠ (rdU (byB n tp) n (D 0 0) s0).1) → ∃ σ5 v, srun (lyT Ln) (d, 168, 0, [mR 92, mI 0, mI (D 0 0 - 1), mJ], [], σ4) = some (σ5, v) ∧ ∃ σ', ((Option.bind (srun (lyT Ln) (d, 169, 0, [mR 92, mI 44], [], σ5)) (fun y6 =>
   (Option.bind (srun (lyT Ln) (d, 168, 0, [mR 92, mI 0, mI 9, mJ], [], y6.1)) (fun y7 =>
   (Option.bind (srun (lyT Ln) (d, 169, 0, [mR 92, mI 59], [], y7.1)) (fun y8 =>
   (bif decide (¬ (y8.1 92 16) = 0) then
    some (y8.1, 0)
   else
    (bif minb (mwrap (11 + (mwrap (3 * (y8.1 97 1))))) 52 then
    (bif minb (mwrap ((mwrap (11 + (mwrap (3 * (y8.1 97 1))))) + 1)) 52 then
    (bif minb (mwrap ((mwrap (11 + (mwrap (3 * (y8.1 97 1))))) + 2)) 52 then
    some ((mup (mup (mup (mup y8.1 97 (Int.toNat (mwrap (11 + (mwrap (3 * (y8.1 97 1)))))) a) 97 (Int.toNat (mwrap ((mwrap (11 + (mwrap (3 * (y8.1 97 1))))) + 1))) v) 97 (Int.toNat (mwrap ((mwrap (11 + (mwrap (3 * (y8.1 97 1))))) + 2))) y7.2) 97 1 (mwrap (((mup (mup (mup y8.1 97 (Int.toNat (mwrap (11 + (mwrap (3 * (y8.1 97 1)))))) a) 97 (Int.toNat (mwrap ((mwrap (11 + (mwrap (3 * (y8.1 97 1))))) + 1))) v) 97 (Int.toNat (mwrap ((mwrap (11 + (mwrap (3 * (y8.1 97 1))))) + 2))) y7.2) 97 1) + 1))), 0)
    else none)
    else none)
    else none)))))))) : Option mmY) = some (σ', 0) ∧ RM n tp σ' (rdE (byB n tp) n (D 0 0) s0) ∧ rep 12 (cM (σ' 97)) (if (rdE (byB n tp) n (D 0 0) s0).1 = 0 then addR D (rdU (byB n tp) n (D 0 0) s0).1 (rdW (byB n tp) n (D 0 0) s0).1 (rdG (byB n tp) n (D 0 0) s0).1 else D) ∧ frL σ0 σ' := by
    intro hb
    obtain ⟨σ5, v, e5, r5, hv, f5⟩ := m_num (Ln := Ln) ht hn r4' hd 0 (D 0 0 - 1) (rdU (byB n tp) n (D 0 0) s0).1 (fun q => hb (r4'.2.1.trans q))
    obtain ⟨σ', e', r', h', f'⟩ := m_roadW (Ln := Ln) (d := d) ht hn hd r0 (a := a) (v := v) r5 (fun q => ⟨hv q, ha' (s4 q)⟩) (by rw [frK_97 f5, frK_97 f04]; exact h) h7
    exact ⟨σ5, v, e5, σ', e', r', h', frL_trans (frK_L (frK_trans f04 f5)) f'⟩
  by_cases z : (exS (byB n tp) 44 (rdU (byB n tp) n (D 0 0) s0).2).1 = 0
  · obtain ⟨_, h14, h15, _⟩ := r4'.2.2.2.1 z
    have TN := tok_num (n := n) (tp := tp) (p := (exS (byB n tp) 44 (rdU (byB n tp) n (D 0 0) s0).2).2)
    rw [decide_eq_false (show ¬ ¬ σ4 92 16 = 0 by rw [r4'.2.1]; omega), cond_false]
    by_cases k : fig (byB n tp) n (exS (byB n tp) 44 (rdU (byB n tp) n (D 0 0) s0).2).2 = 1 ∨ fig (byB n tp) n (exS (byB n tp) 44 (rdU (byB n tp) n (D 0 0) s0).2).2 = 2
    · have V := num_val k
      have v15 : σ4 92 15 = numV (byB n tp) n (exS (byB n tp) 44 (rdU (byB n tp) n (D 0 0) s0).2).2 := h15.trans V.1
      rw [decide_eq_false (show ¬ ¬ σ4 92 14 = 3 by rw [h14, TN.mpr k]; omega), cond_false]
      by_cases q : numV (byB n tp) n (exS (byB n tp) 44 (rdU (byB n tp) n (D 0 0) s0).2).2 = a
      · obtain ⟨σ5, e5, r5, f5⟩ := m_bad (Ln := Ln) r4' (show 1 ≤ d by omega) (show ¬ (2 : Int) = 0 by omega)
        rw [if_pos z] at r5
        have p5 : σ5 97 0 = D 0 0 := (f5 97 0 (by omega)).trans p4
        obtain ⟨σ6, v, e6, r6, hv, f6⟩ := m_num (Ln := Ln) ht hn r5 hd 0 (D 0 0 - 1) (rdU (byB n tp) n (D 0 0) s0).1 (fun q => absurd q (show ¬ (2 : Int) = 0 by omega))
        have w2 : (rdW (byB n tp) n (D 0 0) s0).2 = (2, (exS (byB n tp) 44 (rdU (byB n tp) n (D 0 0) s0).2).2) := by
          unfold rdW
          unfold nuS
          rw [if_pos z, if_pos k, if_neg (fun w => w.2.2 (q.trans (ha' z)))]
        rw [nu_bad (show ¬ (2 : Int) = 0 by omega), ← w2] at r6
        obtain ⟨σ', e', r', h', f'⟩ := m_roadW (Ln := Ln) (d := d) ht hn hd r0 (a := a) (v := v) r6 (fun q => by rw [w2] at q; exact absurd q (show ¬ (2 : Int) = 0 by omega)) (by rw [frK_97 f6, frK_97 f5, frK_97 f04]; exact h) h7
        rw [decide_eq_false (show ¬ ¬ σ4 92 15 = a by omega), cond_false, e5, Option.bind_some]
        simp only [p5, mw (show -2147483648 ≤ D 0 0 - 1 by omega) (show D 0 0 - 1 < 2147483648 by omega), e6, Option.bind_some]
        exact ⟨σ', e', r', h', frL_trans (frK_L (frK_trans f04 (frK_trans f5 f6))) f'⟩
      · obtain ⟨σ5, v, e5, σ', e', w⟩ := go (fun _ _ w => q (w.trans (ha' z).symm))
        rw [decide_eq_true (show ¬ σ4 92 15 = a by omega), cond_true, e5, Option.bind_some]
        exact ⟨σ', e', w⟩
    · obtain ⟨σ5, v, e5, σ', e', w⟩ := go (fun _ w => absurd w k)
      rw [decide_eq_true (show ¬ σ4 92 14 = 3 by rw [h14]; exact fun w => k (TN.mp w)), cond_true, e5, Option.bind_some]
      exact ⟨σ', e', w⟩
  · have z4 : ¬ σ4 92 16 = 0 := by rw [r4'.2.1]; exact z
    obtain ⟨σ5, v, e5, σ', e', w⟩ := go (fun w => absurd w z4)
    rw [decide_eq_true z4, cond_true, e5, Option.bind_some]
    exact ⟨σ', e', w⟩
theorem m_road {Ln dp : Nat} {n : Int} {tp : Nat → Int} (ht : ∀ j : Nat, (j : Int) < n → 0 ≤ tp j ∧ tp j ≤ 255) (hn : n ≤ 120) (hD : 5 ≤ dp) {D : Cty} (pd : PD D) {σ : mmSt} {s : Int × Int} (r : RM n tp σ s) (h : rep 12 (cM (σ 97)) D) (hs : s.1 = 0 ∧ (byB n tp) s.2 = 114) : ∃ σ', srun (lyT Ln) (dp, 175, 0, [mR 92, mJ, mJ, mJ, mJ], [], σ) = some (σ', 0) ∧ RM n tp σ' (roadS (byB n tp) n D s).1 ∧ rep 12 (cM (σ' 97)) (roadS (byB n tp) n D s).2 ∧ frL σ σ' := by
  obtain ⟨d, rfl⟩ := Nat.exists_eq_add_of_le' hD
  have w := pd.1
  have fin : ∀ σ0, RM n tp σ0 (rd0 (byB n tp) D s) → frK σ σ0 → ∃ σ', ((Option.bind (srun (lyT Ln) (d + 4, 167, 0, [mR 92, mI 114], [], σ0)) (fun y1 =>
  (Option.bind (srun (lyT Ln) (d + 4, 166, 0, [mR 92, mI y1.2], [], y1.1)) (fun y2 =>
  (Option.bind (srun (lyT Ln) (d + 4, 168, 0, [mR 92, mI 0, mI (mwrap ((y2.1 97 0) - 1)), mJ], [], y2.1)) (fun y3 =>
  (Option.bind (srun (lyT Ln) (d + 4, 169, 0, [mR 92, mI 44], [], y3.1)) (fun y4 =>
  (bif decide (¬ (y4.1 92 16) = 0) then
   (Option.bind (srun (lyT Ln) (d + 4, 168, 0, [mR 92, mI 0, mI (mwrap ((y4.1 97 0) - 1)), mJ], [], y4.1)) (fun y5 =>
   (Option.bind (srun (lyT Ln) (d + 4, 169, 0, [mR 92, mI 44], [], y5.1)) (fun y6 =>
   (Option.bind (srun (lyT Ln) (d + 4, 168, 0, [mR 92, mI 0, mI 9, mJ], [], y6.1)) (fun y7 =>
   (Option.bind (srun (lyT Ln) (d + 4, 169, 0, [mR 92, mI 59], [], y7.1)) (fun y8 =>
   (bif decide (¬ (y8.1 92 16) = 0) then
    some (y8.1, 0)
   else
    (bif minb (mwrap (11 + (mwrap (3 * (y8.1 97 1))))) 52 then
    (bif minb (mwrap ((mwrap (11 + (mwrap (3 * (y8.1 97 1))))) + 1)) 52 then
    (bif minb (mwrap ((mwrap (11 + (mwrap (3 * (y8.1 97 1))))) + 2)) 52 then
    some ((mup (mup (mup (mup y8.1 97 (Int.toNat (mwrap (11 + (mwrap (3 * (y8.1 97 1)))))) y3.2) 97 (Int.toNat (mwrap ((mwrap (11 + (mwrap (3 * (y8.1 97 1))))) + 1))) y5.2) 97 (Int.toNat (mwrap ((mwrap (11 + (mwrap (3 * (y8.1 97 1))))) + 2))) y7.2) 97 1 (mwrap (((mup (mup (mup y8.1 97 (Int.toNat (mwrap (11 + (mwrap (3 * (y8.1 97 1)))))) y3.2) 97 (Int.toNat (mwrap ((mwrap (11 + (mwrap (3 * (y8.1 97 1))))) + 1))) y5.2) 97 (Int.toNat (mwrap ((mwrap (11 + (mwrap (3 * (y8.1 97 1))))) + 2))) y7.2) 97 1) + 1))), 0)
    else none)
    else none)
    else none))))))))))
  else
   (bif decide (¬ (y4.1 92 14) = 3) then
    (Option.bind (srun (lyT Ln) (d + 4, 168, 0, [mR 92, mI 0, mI (mwrap ((y4.1 97 0) - 1)), mJ], [], y4.1)) (fun y9 =>
    (Option.bind (srun (lyT Ln) (d + 4, 169, 0, [mR 92, mI 44], [], y9.1)) (fun y10 =>
    (Option.bind (srun (lyT Ln) (d + 4, 168, 0, [mR 92, mI 0, mI 9, mJ], [], y10.1)) (fun y11 =>
    (Option.bind (srun (lyT Ln) (d + 4, 169, 0, [mR 92, mI 59], [], y11.1)) (fun y12 =>
    (bif decide (¬ (y12.1 92 16) = 0) then
     some (y12.1, 0)
    else
     (bif minb (mwrap (11 + (mwrap (3 * (y12.1 97 1))))) 52 then
     (bif minb (mwrap ((mwrap (11 + (mwrap (3 * (y12.1 97 1))))) + 1)) 52 then
     (bif minb (mwrap ((mwrap (11 + (mwrap (3 * (y12.1 97 1))))) + 2)) 52 then
     some ((mup (mup (mup (mup y12.1 97 (Int.toNat (mwrap (11 + (mwrap (3 * (y12.1 97 1)))))) y3.2) 97 (Int.toNat (mwrap ((mwrap (11 + (mwrap (3 * (y12.1 97 1))))) + 1))) y9.2) 97 (Int.toNat (mwrap ((mwrap (11 + (mwrap (3 * (y12.1 97 1))))) + 2))) y11.2) 97 1 (mwrap (((mup (mup (mup y12.1 97 (Int.toNat (mwrap (11 + (mwrap (3 * (y12.1 97 1)))))) y3.2) 97 (Int.toNat (mwrap ((mwrap (11 + (mwrap (3 * (y12.1 97 1))))) + 1))) y9.2) 97 (Int.toNat (mwrap ((mwrap (11 + (mwrap (3 * (y12.1 97 1))))) + 2))) y11.2) 97 1) + 1))), 0)
     else none)
     else none)
     else none))))))))))
   else
    (bif decide (¬ (y4.1 92 15) = y3.2) then
     (Option.bind (srun (lyT Ln) (d + 4, 168, 0, [mR 92, mI 0, mI (mwrap ((y4.1 97 0) - 1)), mJ], [], y4.1)) (fun y13 =>
     (Option.bind (srun (lyT Ln) (d + 4, 169, 0, [mR 92, mI 44], [], y13.1)) (fun y14 =>
     (Option.bind (srun (lyT Ln) (d + 4, 168, 0, [mR 92, mI 0, mI 9, mJ], [], y14.1)) (fun y15 =>
     (Option.bind (srun (lyT Ln) (d + 4, 169, 0, [mR 92, mI 59], [], y15.1)) (fun y16 =>
     (bif decide (¬ (y16.1 92 16) = 0) then
      some (y16.1, 0)
     else
      (bif minb (mwrap (11 + (mwrap (3 * (y16.1 97 1))))) 52 then
      (bif minb (mwrap ((mwrap (11 + (mwrap (3 * (y16.1 97 1))))) + 1)) 52 then
      (bif minb (mwrap ((mwrap (11 + (mwrap (3 * (y16.1 97 1))))) + 2)) 52 then
      some ((mup (mup (mup (mup y16.1 97 (Int.toNat (mwrap (11 + (mwrap (3 * (y16.1 97 1)))))) y3.2) 97 (Int.toNat (mwrap ((mwrap (11 + (mwrap (3 * (y16.1 97 1))))) + 1))) y13.2) 97 (Int.toNat (mwrap ((mwrap (11 + (mwrap (3 * (y16.1 97 1))))) + 2))) y15.2) 97 1 (mwrap (((mup (mup (mup y16.1 97 (Int.toNat (mwrap (11 + (mwrap (3 * (y16.1 97 1)))))) y3.2) 97 (Int.toNat (mwrap ((mwrap (11 + (mwrap (3 * (y16.1 97 1))))) + 1))) y13.2) 97 (Int.toNat (mwrap ((mwrap (11 + (mwrap (3 * (y16.1 97 1))))) + 2))) y15.2) 97 1) + 1))), 0)
      else none)
      else none)
      else none))))))))))
    else
     (Option.bind (srun (lyT Ln) (d + 4, 164, 0, [mR 92, mI 2], [], y4.1)) (fun y17 =>
     (Option.bind (srun (lyT Ln) (d + 4, 168, 0, [mR 92, mI 0, mI (mwrap ((y17.1 97 0) - 1)), mJ], [], y17.1)) (fun y18 =>
     (Option.bind (srun (lyT Ln) (d + 4, 169, 0, [mR 92, mI 44], [], y18.1)) (fun y19 =>
     (Option.bind (srun (lyT Ln) (d + 4, 168, 0, [mR 92, mI 0, mI 9, mJ], [], y19.1)) (fun y20 =>
     (Option.bind (srun (lyT Ln) (d + 4, 169, 0, [mR 92, mI 59], [], y20.1)) (fun y21 =>
     (bif decide (¬ (y21.1 92 16) = 0) then
      some (y21.1, 0)
     else
      (bif minb (mwrap (11 + (mwrap (3 * (y21.1 97 1))))) 52 then
      (bif minb (mwrap ((mwrap (11 + (mwrap (3 * (y21.1 97 1))))) + 1)) 52 then
      (bif minb (mwrap ((mwrap (11 + (mwrap (3 * (y21.1 97 1))))) + 2)) 52 then
      some ((mup (mup (mup (mup y21.1 97 (Int.toNat (mwrap (11 + (mwrap (3 * (y21.1 97 1)))))) y3.2) 97 (Int.toNat (mwrap ((mwrap (11 + (mwrap (3 * (y21.1 97 1))))) + 1))) y18.2) 97 (Int.toNat (mwrap ((mwrap (11 + (mwrap (3 * (y21.1 97 1))))) + 2))) y20.2) 97 1 (mwrap (((mup (mup (mup y21.1 97 (Int.toNat (mwrap (11 + (mwrap (3 * (y21.1 97 1)))))) y3.2) 97 (Int.toNat (mwrap ((mwrap (11 + (mwrap (3 * (y21.1 97 1))))) + 1))) y18.2) 97 (Int.toNat (mwrap ((mwrap (11 + (mwrap (3 * (y21.1 97 1))))) + 2))) y20.2) 97 1) + 1))), 0)
      else none)
      else none)
      else none))))))))))))))))))))))) : Option mmY) = some (σ', 0) ∧ RM n tp σ' (roadS (byB n tp) n D s).1 ∧ rep 12 (cM (σ' 97)) (roadS (byB n tp) n D s).2 ∧ frL σ σ' := by
    intro σ0 r0 f0
    obtain ⟨σ', e, r', h', f'⟩ := m_roadT (Ln := Ln) (d := d + 4) ht hn (by omega) (show 0 ≤ D 0 0 by omega) (by omega) (by omega) r0 (by rw [frK_97 f0]; exact h) (fun q => (road_ok (B := (byB n tp)) (n := n) (D := D) (s := s) q pd).2.2.1)
    exact ⟨σ', e, r', h', frL_trans (frK_L f0) f'⟩
  rw [b_M_readRoad, m1 h]
  by_cases c7 : D 1 0 = 7
  · obtain ⟨σ1, e1, r1, f1⟩ := m_bad (Ln := Ln) r (show 1 ≤ d + 4 by omega) (show ¬ (3 : Int) = 0 by omega)
    have e0 : rd0 (byB n tp) D s = (3, s.2) := if_pos ⟨hs.1, hs.2, c7⟩
    rw [if_pos hs.1, ← e0] at r1
    rw [decide_eq_false (show ¬ ¬ D 1 0 = 7 by omega), cond_false, e1, Option.bind_some]
    exact fin σ1 r1 f1
  · have e0 : rd0 (byB n tp) D s = s := if_neg (fun q => c7 q.2.2)
    rw [decide_eq_true c7, cond_true]
    exact fin σ (by rw [e0]; exact r) (frK_rfl _)
