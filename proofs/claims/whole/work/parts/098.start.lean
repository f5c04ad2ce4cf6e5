/-! THE CLAIM OUT OF ONE WALK OF THE LAW'S BODY. Your part is whole_start (and what it stands on); all else here is the same for every law, but numbers. -/
def R_law : String := "GridQuarrelsLaw"
def lw_P (b : Addr) (xs : List Int32) (args : Array Value) (s : State) : Prop := args = #[.ref b] ∧ s.IntsAt b xs ∧ xs.length ≤ 384 ∧ (Jvm.Cond.and given_1 narrow_1).before args s = true
def lw_Q (_ : Array Value) (s : State) (o : Outcome) (t : State) : Prop := o = .returned (some (.int 1)) ∧ Framed s o t [] 600000 7302250
def lw_Z (below : List Frame) (a : Array Value) (s : State) : State → Prop := fun t => ∃ o, t.status = .running ∧ Ended t below o ∧ lw_Q a s o t
/-- the law's own end, with 1 on the stack, nothing written that was there before, its room as the claim has it -/
theorem lw_ret {p : Program} {l : Launch} {e : Env} {s : State} {m : MethodId} {below : List Frame} {meth : Method} {c : Code} {b : Nat} (hx : p.tables.exec = Jvm.exec) (hb : c.code = code) (hr : meth.sig.returnType = ret) (hlocks : meth.locks = false) {pc : Nat} {H : Heap} {ls : Array Slot} (hdg : decode code pc = .ok (.ireturn, 1)) : W p l e room_1 s m #[Value.ref b] below meth c H [] 600000 7302250 (lw_Z below #[Value.ref b] s) (F0 m pc ls [.int 1]) := by
  intro T hT X
  obtain ⟨fs, hret, hrun, hended, hW, hframe⟩ := X.leave (v := some (.int 1)) (hlocks := hlocks) (fun h => by rw [hr] at h; cases h)
  have hmeth' : T.vm.method? m = some meth := X.method'
  refine ⟨T.setFrames fs, ?_, .returned (some (.int 1)), hrun, hended, rfl, ⟨_, rfl⟩, hW, hframe⟩
  jvm_step X.here [X.here.top, hx, hb, hdg, hmeth', hr, ret, narrow_b1]
  (try refine ⟨rfl, ?_⟩); (try refine ⟨rfl, ?_⟩)
  first | (intro acts; rw [hret _ acts rfl rfl rfl]) | rw [hret _ _ rfl rfl rfl]
  exact Steps.refl _
/-- what holds at the law's entry: the machine, the code, the tables' words (any of lw_tbl by 'hts w (by decide +kernel)'), the script of L ints xs at the cell b, what the Statement gives of the start (any of its parts by flat_of_before) -/
def lw_At (p : Program) (s : State) (m : MethodId) (meth : Method) (c : Code) (b L : Nat) (xs : Nat → Int32) : Prop :=
  p.tables.exec = Jvm.exec ∧ c.code = code ∧ meth.sig.returnType = ret ∧ c.maxLocals = 4 ∧ s.vm.findClass R_law = some m.cls ∧ (∀ w ∈ lw_tbl, w.before #[Value.ref b] s = true) ∧ va_X b L xs s s.heap ∧ b < s.heap.size ∧ meth.locks = false ∧ (Jvm.Cond.and given_1 narrow_1).before #[Value.ref b] s = true

/-- the pure claim: the law, on the mini machine -/
def ly0 (Ln : Nat) : mmL := (4, 0, fun k => .inl (false, if k = 0 then Ln else 6))
def ro_tab : Nat → Nat → Int
  | 1, 2 => 1
  | 1, 3 => 1
  | 1, 5 => 4
  | 2, 0 => 10
  | 2, 1 => 11
  | 2, 2 => 12
  | 2, 4 => 13
  | 2, 5 => 14
  | 3, 0 => 20
  | 3, 1 => 21
  | 3, 2 => 24
  | 3, 3 => 22
  | 3, 4 => 23
  | _, _ => 0
def st0 (xs : Nat → Int) : mmSt := fun a j => if a = 0 then xs j else ro_tab a j
def PureLaw : Prop := ∀ (Ln : Nat) (xs : Nat → Int), Ln ≤ 384 → (∀ j, vI (xs j)) → ∃ (ly' : mmL) (σ' : mmSt), grun mstep (ly0 Ln, (100, 242, 0, [mR 0, mJ, mJ, mJ], [], st0 xs)) = some (ly', (σ', 1)) ∧ ly'.1 ≤ 600000 ∧ ly'.2.1 ≤ 7302250
theorem st0_rng {xs : Nat → Int} (h : ∀ j, vI (xs j)) : ∀ a j, vI (st0 xs a j) := by
  intro a j
  unfold st0
  split
  · exact h j
  · unfold ro_tab
    split <;> exact ⟨by decide, by decide⟩
set_option maxHeartbeats 4000000 in
/-- the law from its entry, if the pure claim holds -/
theorem whole_of (hpure : PureLaw) {p : Program} {e : Env} {s : State} {m : MethodId} {below : List Frame} {meth : Method} {c : Code} (l : Launch) {b L : Nat} {xs : Nat → Int32} (hL : L ≤ 384) (C0 : lw_At p s m meth c b L xs) : W p l e room_1 s m #[Value.ref b] below meth c s.heap [] 0 0 (lw_Z below #[Value.ref b] s) (entryFrame m ([Value.ref b] : List Value).toArray 4) := by
  obtain ⟨hx, hb, hr, hml, hown, hts0, hX, hbl, hlocks, hgv⟩ := C0
  have hts : ∀ w ∈ tb, w.before #[Value.ref b] s = true := fun w hw => hts0 w (List.mem_filter.mp hw).1
  obtain ⟨c0, iS0, hKn0⟩ := u_known (C := "GridQuarrels$Acts") (T := qT0) (N := 3) (n := 3) hts (qok 0 _ _ _ rfl).1 (hts (.instantiable "GridQuarrels$Acts" 3) (tbAt_mem (k := 1147) (by decide +kernel)))
  obtain ⟨c1, iS1, hKn1⟩ := u_known (C := "GridQuarrels$Asker") (T := qT1) (N := 2) (n := 2) hts (qok 1 _ _ _ rfl).1 (hts (.instantiable "GridQuarrels$Asker" 2) (tbAt_mem (k := 1187) (by decide +kernel)))
  obtain ⟨c2, iS2, hKn2⟩ := u_known (C := "GridQuarrels$County") (T := qT2) (N := 15) (n := 15) hts (qok 2 _ _ _ rfl).1 (hts (.instantiable "GridQuarrels$County" 15) (tbAt_mem (k := 1044) (by decide +kernel)))
  obtain ⟨c3, iS3, hKn3⟩ := u_known (C := "GridQuarrels$Reader") (T := qT3) (N := 6) (n := 6) hts (qok 3 _ _ _ rfl).1 (hts (.instantiable "GridQuarrels$Reader" 6) (tbAt_mem (k := 1038) (by decide +kernel)))
  obtain ⟨c4, iS4, hKn4⟩ := u_known (C := "GridQuarrels$Rows") (T := qT4) (N := 3) (n := 3) hts (qok 4 _ _ _ rfl).1 (hts (.instantiable "GridQuarrels$Rows" 3) (tbAt_mem (k := 1021) (by decide +kernel)))
  obtain ⟨c5, iS5, hKn5⟩ := u_known (C := "GridQuarrels$Seer") (T := qT5) (N := 3) (n := 3) hts (qok 5 _ _ _ rfl).1 (hts (.instantiable "GridQuarrels$Seer" 3) (tbAt_mem (k := 1166) (by decide +kernel)))
  obtain ⟨c6, iS6, hKn6⟩ := u_known (C := "GridQuarrels") (T := qT6) (N := 8) (n := 8) hts (qok 6 _ _ _ rfl).1 (hts (.instantiable "GridQuarrels" 8) (tbAt_mem (k := 1013) (by decide +kernel)))
  obtain ⟨c7, iS7, hKn7⟩ := u_known (C := "GridQuarrelsModel") (T := qT7) (N := 27) (n := 27) hts (qok 7 _ _ _ rfl).1 (hts (.instantiable "GridQuarrelsModel" 27) (tbAt_mem (k := 4138) (by decide +kernel)))
  obtain ⟨dC, dI, hKc⟩ : ∃ (dC : Nat → ClassId) (dI : Nat → Nat → Nat), ∀ (k : Nat) (q : vw_C), qC[k]? = some q → u_Kn s q.1 q.2.1 q.2.2 (dC k) (dI k) := by
    refine ⟨fun k => if k = 0 then c0 else if k = 1 then c1 else if k = 2 then c2 else if k = 3 then c3 else if k = 4 then c4 else if k = 5 then c5 else if k = 6 then c6 else c7, fun k => if k = 0 then iS0 else if k = 1 then iS1 else if k = 2 then iS2 else if k = 3 then iS3 else if k = 4 then iS4 else if k = 5 then iS5 else if k = 6 then iS6 else iS7, ?_⟩
    intro k q hq
    match k, hq with
    | 0, hq => cases hq; exact hKn0
    | 1, hq => cases hq; exact hKn1
    | 2, hq => cases hq; exact hKn2
    | 3, hq => cases hq; exact hKn3
    | 4, hq => cases hq; exact hKn4
    | 5, hq => cases hq; exact hKn5
    | 6, hq => cases hq; exact hKn6
    | 7, hq => cases hq; exact hKn7
    | k + 8, hq => simp [qC] at hq
  obtain ⟨cI, kI, compI, fI, gI, tI⟩ := Cond.arrayClass_spec (hts (.arrayClass .int) (tbAt_mem (k := 1036) (by decide +kernel)))
  obtain ⟨cB, kB, compB, fB, gB, tB⟩ := Cond.arrayClass_spec (hts (.arrayClass .boolean) (tbAt_mem (k := 4225) (by decide +kernel)))
  obtain ⟨compR, cR, kR, fR, -, gR, tR, nR⟩ := Cond.arrayOver_spec (hts0 (.arrayOver (.object "GridQuarrels$County")) (nbAt_mem (k := 1200) (by decide +kernel)))
  obtain ⟨compG, cG, kG, fG, -, gG, tG, nG⟩ := Jvm.Stand.arrayOver_specB (hts0 (.arrayOver (.array .int)) (nbAt_mem (k := 1153) (by decide +kernel)))
  have hg := flat_of_before _ hgv
  have hA0 : ∀ x : Nat, x < s.heap.size → ¬ (fun q : Nat => s.heap.size ≤ q) x := fun x hx => Nat.not_le.mpr hx
  obtain ⟨t1, ht1, hT1⟩ := va_Tof (args := #[Value.ref b]) (s := s) (tm := .static "GridQuarrels" "ABOVE" "[I") (ty := .int) (N := 6) (f := fun j => .int (Int32.ofInt (ro_tab 1 j))) (A := fun q : Nat => s.heap.size ≤ q) (by decide) (hg _ (by decide +kernel)) (va_eqt (hg (.eq (.length (.static "GridQuarrels" "ABOVE" "[I")) (.int 6)) (by decide +kernel))) (fun j hj => by
    rcases (show j = 0 ∨ j = 1 ∨ j = 2 ∨ j = 3 ∨ j = 4 ∨ j = 5 by omega) with rfl | rfl | rfl | rfl | rfl | rfl
    · exact va_eqt (hg (.eq (.elem (.static "GridQuarrels" "ABOVE" "[I") (.int 0)) (.int 0)) (by decide +kernel))
    · exact va_eqt (hg (.eq (.elem (.static "GridQuarrels" "ABOVE" "[I") (.int 1)) (.int 0)) (by decide +kernel))
    · exact va_eqt (hg (.eq (.elem (.static "GridQuarrels" "ABOVE" "[I") (.int 2)) (.int 1)) (by decide +kernel))
    · exact va_eqt (hg (.eq (.elem (.static "GridQuarrels" "ABOVE" "[I") (.int 3)) (.int 1)) (by decide +kernel))
    · exact va_eqt (hg (.eq (.elem (.static "GridQuarrels" "ABOVE" "[I") (.int 4)) (.int 0)) (by decide +kernel))
    · exact va_eqt (hg (.eq (.elem (.static "GridQuarrels" "ABOVE" "[I") (.int 5)) (.int 4)) (by decide +kernel))) hA0
  have hZ1 := va_Zref (A := fun q : Nat => s.heap.size ≤ q) (hts0 (.laysStatic "GridQuarrels" "ABOVE" "[I") (nbAt_mem (k := 4082) (by decide +kernel))) (hts (.initialized "GridQuarrels") (tbAt_mem (k := 1001) (by decide +kernel))) ht1 hA0
  obtain ⟨t2, ht2, hT2⟩ := va_Tof (args := #[Value.ref b]) (s := s) (tm := .static "GridQuarrels$Asker" "SIZE_BODIES" "[I") (ty := .int) (N := 6) (f := fun j => .int (Int32.ofInt (ro_tab 2 j))) (A := fun q : Nat => s.heap.size ≤ q) (by decide) (hg _ (by decide +kernel)) (va_eqt (hg (.eq (.length (.static "GridQuarrels$Asker" "SIZE_BODIES" "[I")) (.int 6)) (by decide +kernel))) (fun j hj => by
    rcases (show j = 0 ∨ j = 1 ∨ j = 2 ∨ j = 3 ∨ j = 4 ∨ j = 5 by omega) with rfl | rfl | rfl | rfl | rfl | rfl
    · exact va_eqt (hg (.eq (.elem (.static "GridQuarrels$Asker" "SIZE_BODIES" "[I") (.int 0)) (.int 10)) (by decide +kernel))
    · exact va_eqt (hg (.eq (.elem (.static "GridQuarrels$Asker" "SIZE_BODIES" "[I") (.int 1)) (.int 11)) (by decide +kernel))
    · exact va_eqt (hg (.eq (.elem (.static "GridQuarrels$Asker" "SIZE_BODIES" "[I") (.int 2)) (.int 12)) (by decide +kernel))
    · exact va_eqt (hg (.eq (.elem (.static "GridQuarrels$Asker" "SIZE_BODIES" "[I") (.int 3)) (.int 0)) (by decide +kernel))
    · exact va_eqt (hg (.eq (.elem (.static "GridQuarrels$Asker" "SIZE_BODIES" "[I") (.int 4)) (.int 13)) (by decide +kernel))
    · exact va_eqt (hg (.eq (.elem (.static "GridQuarrels$Asker" "SIZE_BODIES" "[I") (.int 5)) (.int 14)) (by decide +kernel))) hA0
  have hZ2 := va_Zref (A := fun q : Nat => s.heap.size ≤ q) (hts0 (.laysStatic "GridQuarrels$Asker" "SIZE_BODIES" "[I") (nbAt_mem (k := 4099) (by decide +kernel))) (hts (.initialized "GridQuarrels$Asker") (tbAt_mem (k := 1007) (by decide +kernel))) ht2 hA0
  obtain ⟨t3, ht3, hT3⟩ := va_Tof (args := #[Value.ref b]) (s := s) (tm := .static "GridQuarrels$Asker" "MARK_BODIES" "[I") (ty := .int) (N := 6) (f := fun j => .int (Int32.ofInt (ro_tab 3 j))) (A := fun q : Nat => s.heap.size ≤ q) (by decide) (hg _ (by decide +kernel)) (va_eqt (hg (.eq (.length (.static "GridQuarrels$Asker" "MARK_BODIES" "[I")) (.int 6)) (by decide +kernel))) (fun j hj => by
    rcases (show j = 0 ∨ j = 1 ∨ j = 2 ∨ j = 3 ∨ j = 4 ∨ j = 5 by omega) with rfl | rfl | rfl | rfl | rfl | rfl
    · exact va_eqt (hg (.eq (.elem (.static "GridQuarrels$Asker" "MARK_BODIES" "[I") (.int 0)) (.int 20)) (by decide +kernel))
    · exact va_eqt (hg (.eq (.elem (.static "GridQuarrels$Asker" "MARK_BODIES" "[I") (.int 1)) (.int 21)) (by decide +kernel))
    · exact va_eqt (hg (.eq (.elem (.static "GridQuarrels$Asker" "MARK_BODIES" "[I") (.int 2)) (.int 24)) (by decide +kernel))
    · exact va_eqt (hg (.eq (.elem (.static "GridQuarrels$Asker" "MARK_BODIES" "[I") (.int 3)) (.int 22)) (by decide +kernel))
    · exact va_eqt (hg (.eq (.elem (.static "GridQuarrels$Asker" "MARK_BODIES" "[I") (.int 4)) (.int 23)) (by decide +kernel))
    · exact va_eqt (hg (.eq (.elem (.static "GridQuarrels$Asker" "MARK_BODIES" "[I") (.int 5)) (.int 0)) (by decide +kernel))) hA0
  have hZ3 := va_Zref (A := fun q : Nat => s.heap.size ≤ q) (hts0 (.laysStatic "GridQuarrels$Asker" "MARK_BODIES" "[I") (nbAt_mem (k := 4101) (by decide +kernel))) (hts (.initialized "GridQuarrels$Asker") (tbAt_mem (k := 1007) (by decide +kernel))) ht3 hA0
  let xs' : Nat → Int := fun j => (xs j).toInt
  let G : mmG := ((dC, dI), (cI, cB, cR, cG), (fun k => if k = 0 then b else if k = 1 then t1 else if k = 2 then t2 else t3), s.heap.size, (fun k => if k = 0 then L else 6), st0 xs')
  have hvx : ∀ j, vI (xs' j) := fun j => i32_rng _
  have hEF : gEF G s := by
    refine ⟨⟨hKc, fun k q hk => ?_⟩, fun w hw hn => ?_, va_AO.of (hts0 (.arrayOver (.object "GridQuarrels$County")) (nbAt_mem (k := 1200) (by decide +kernel))), hts0 (.arrayOver (.array .int)) (nbAt_mem (k := 1153) (by decide +kernel)), fun k hk => ?_, fun k hk1 hk2 => ?_, Nat.le_refl _⟩
    · match k, hk with
      | 0, hk => cases hk; exact ⟨fun n z => ⟨fun k h => (by cases h), kI, gI, compI, tI⟩, fI⟩
      | 1, hk => cases hk; exact ⟨fun n z => ⟨fun k h => (by cases h), kB, gB, compB, tB⟩, fB⟩
      | 2, hk => cases hk; exact ⟨fun n z => ⟨fun k h => (by cases h), kR, gR, compR, tR⟩, kR, compR, gR, tR, fR, nR⟩
      | 3, hk => cases hk; exact ⟨fun n z => ⟨fun k h => (by cases h), kG, gG, compG, tG⟩, nG⟩
      | k + 4, hk => simp [gtys] at hk
    · cases w with
      | methodLinkNest x1 x2 x3 x4 => exact va_Nw.of rfl (hts0 _ hw)
      | fieldLinkNest x1 x2 x3 x4 x5 x6 => exact va_Nw.of rfl (hts0 _ hw)
      | _ => cases hn
    · match k, hk with
      | 0, _ =>
        obtain ⟨scr, g1, g2, g3, g4, g5⟩ := hX
        refine ⟨⟨scr, g1, g2, g3, Nat.le_of_eq g4.symm, congrArg Nat.toInt32 g4, fun j hj => ?_, hA0 b hbl⟩, hbl⟩
        rw [g5 j hj]
        show some (Value.int (xs j)) = some (.int (Int32.ofInt ((xs j).toInt)))
        rw [i32_of]
      | 1, _ => exact ⟨hT1, by obtain ⟨cell, g1, -⟩ := hT1; exact (Array.getElem?_eq_some_iff.mp g1).1⟩
      | 2, _ => exact ⟨hT2, by obtain ⟨cell, g1, -⟩ := hT2; exact (Array.getElem?_eq_some_iff.mp g1).1⟩
      | 3, _ => exact ⟨hT3, by obtain ⟨cell, g1, -⟩ := hT3; exact (Array.getElem?_eq_some_iff.mp g1).1⟩
      | k + 4, hk => omega
    · match k, hk1, hk2 with
      | 1, _, _ => exact hZ1
      | 2, _, _ => exact hZ2
      | 3, _, _ => exact hZ3
      | 0, hk1, _ => omega
      | k + 4, _, hk2 => omega
  have hF : gCF G p s m #[Value.ref b] meth c 242 := ⟨hx, hb, hml, hown, hts, hr, hlocks, (fun q => by cases q), hEF⟩
  obtain ⟨ly', σ', hrun, hc1, hc2⟩ := hpure L xs' hL hvx
  obtain ⟨n, hn⟩ := (grun_iff _ _ _).mp hrun
  have hw0 : gWD G (ly0 L) (st0 xs') s.heap := by
    refine ⟨fun k q hk => ?_, rfl, Nat.le_refl _, fun k hk => ⟨rfl, fun j => rfl⟩⟩
    obtain ⟨h1, -⟩ := gws_of G hk
    have h1 : k + 4 < 4 := h1
    omega
  have hlyok : lyOK (ly0 L) := by
    intro r n bo hr
    have hr : (Sum.inl (false, if r = 0 then L else 6) : mmC) = .inl (bo, n) := hr
    cases hr
    split <;> omega
  rw [lg_entry_eq]
  have K := sound l G n (ly0 L) 100 242 0 [mR 0, mJ, mJ, mJ] [] (st0 xs') ly' σ' 1 hn (by decide) (by decide) (by decide) (by decide +kernel) hlyok (p := p) (e := e) (R := room_1) (s := s) (m := m) (args := #[Value.ref b]) (below := below) (meth := meth) (c := c) (Q := lw_Z below #[Value.ref b] s) (cells := 0) (slots := 0) hF ⟨by decide, by decide⟩ (by show 0 + (ly'.1 - 4) ≤ 600000; omega) (by show 0 + (ly'.2.1 - 0) ≤ 7302250; omega) ⟨(by intro v hv; simp only [List.mem_cons, List.mem_nil_iff, or_false] at hv; rcases hv with rfl | rfl | rfl | rfl <;> trivial), (fun _ h => by cases h), st0_rng hvx, by decide +kernel⟩ (fun H1 locs1 pc ls1 hw1 hs1 hr1 hr2 hd => by
    refine va_forget (fun q hq => hs1.2.2 q hq) ?_
    refine W.widen (k := 600000) (n := 7302250) (by show 0 + (ly'.1 - 4) ≤ _; omega) (by show 0 + (ly'.2.1 - 0) ≤ _; omega) ?_
    exact lw_ret hx hb hr hlocks hd) s.heap [] ((lg_sl ([Value.ref b] : List Value) ++ List.replicate (4 - (lg_sl ([Value.ref b] : List Value)).length) Slot.unset).toArray) hw0 va_S.rf (gLR_entry (G := G) (As := [mR 0]) (n := 4) (by decide))
  rw [show (prg 242 0).1 = 0 from by decide +kernel] at K
  exact K
