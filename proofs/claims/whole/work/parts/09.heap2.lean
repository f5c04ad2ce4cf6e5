section HQ
variable {p : Program} {l : Launch} {e : Env} {R : Room} {s : State} {m : MethodId} {args : Array Value} {below : List Frame} {meth : Method} {c : Code} {Q : State → Prop} {G : mmG} {cells slots : Nat} {ly : mmL}
variable {d M i pc a b : Nat} {L S : List mmV} {σ : mmSt} {k0 : Int} {sw : List (Int × Nat)}
theorem st_getstatic (k : Nat) (hp : prg M i = (pc, .getstatic k, a, b, k0, sw)) (hok : okI M i pc (.getstatic k) a b k0 sw = true) (F : gCF G p s m args meth c M) (hV : gV M L S σ) (hk : gSC p l e R s m args below meth c Q G cells slots ly (mstepI ly d M i L S σ (.getstatic k) a b k0 sw)) : gWS p l e R s m args below meth c Q G cells slots ly M i L S σ := by
  obtain ⟨hx, hb, hml, hown, hts, hrt, hlk, hnm, hE⟩ := F
  simp only [okI, Bool.and_eq_true] at hok
  obtain ⟨⟨⟨⟨h1, h2⟩, h3⟩, h4⟩, h5⟩ := hok
  have hpc : (prg M i).1 = pc := by rw [hp]
  simp only [mstepI] at hk
  intro H locs ls hw hs hl
  rw [hpc]
  have h3 := ble_le h3
  have h4 := ble_le h4
  have hZ := hE.2.2.2.2.2.1 a h3 (by omega)
  have K := hk ⟨hV.1, vkv_cons hV.2.1 trivial, hV.2.2.1, hV.2.2.2⟩ H locs ls hw hs hl
  rw [xnx_eq h2] at K
  rcases Bool.or_eq_true_iff.mp h5 with h | h
  · exact va_gets hx hb hZ hs hown (hts _ (tbAt_mem h)) (fun _ q => q) (xdec_eq h1) K
  · exact va_getsN hx hb hZ hs hown (va_Nw.use rfl (hE.2.1 _ (nbAt_mem h) rfl)) (fun _ q => q) (xdec_eq h1) K
/-- an int array of the world, or one that can't change: its cell -/
theorem g_arr (hE : gEF G s) {H : Heap} {locs : List Loc} (hw : gWD G ly σ H) (hs : va_S (gA G) s.heap H locs) {r n : Nat} {bo : Bool} (hr : r < ly.1) (hlay : ly.2.2 r = .inl (bo, n)) : ∃ cell : Cell, H[gad G r]? = some cell ∧ s.isArrayOf cell (bif bo then .boolean else .int) ∧ cell.vm ≠ .unknown ∧ (n ≤ cell.slots.size ∧ cell.slots.size.toInt32 = Int32.ofNat n) ∧ ∀ j, j < n → cell.slots[j]? = some (.int (Int32.ofInt (σ r j))) := by
  rcases Nat.lt_or_ge r 4 with h4 | h4
  · obtain ⟨hX, hlt⟩ := hE.2.2.2.2.1 r h4
    obtain ⟨e1, e2⟩ := hw.2.2.2 r h4
    rw [hlay] at e1
    cases e1
    obtain ⟨cell, g1, g2, g3, g4, g4', g5, g6⟩ := hX
    refine ⟨cell, ?_, g2, g3, ⟨g4, g4'⟩, fun j hj => by rw [e2]; exact g5 j hj⟩
    rw [hs.2.1 _ (Nat.lt_of_lt_of_le hlt hE.2.2.2.2.2.2) (by show ¬ G.2.2.2.1 ≤ gad G r; omega)]
    exact g1
  · have hat := gws_Pat G hw.1 h4 hr
    have hcell : gcell G ly.2.2 σ r = .inl (bif bo then G.2.1.2.1 else G.2.1.1, n, .inl (fun j => Int32.ofInt (σ r j))) := by unfold gcell; rw [hlay]
    rw [hcell] at hat
    refine ⟨_, hat, ?_, fun q => (by cases q), ⟨Nat.le_of_eq (arrV_size _ _ _).symm, congrArg Nat.toInt32 (arrV_size _ _ _)⟩, fun j hj => arrV_read _ _ hj⟩
    cases bo with
    | false => exact (hE.1.2 0 _ rfl).1 n _
    | true => exact (hE.1.2 1 _ rfl).1 n _
theorem in_size {i : Int32} {n k : Nat} (h : vp_in i n) (hk : n ≤ k) : ¬ (i < 0 ∨ k ≤ i.toNatClampNeg) := fun q => h (q.elim Or.inl (fun z => Or.inr (Nat.le_trans hk z)))
theorem mald_in (bo : Bool) (ins : Instr) (row : ∀ {H : Heap} {locs : List Loc} {ls : Array Slot} {cell : Cell} {ad : Nat} {j : Int32} {v : Value} {rest : List Value}, H[ad]? = some cell → s.isArrayOf cell (bif bo then .boolean else .int) → cell.vm ≠ .unknown → ¬ (j < 0 ∨ cell.slots.size ≤ j.toNatClampNeg) → cell.slots[j.toNatClampNeg]? = some v → W p l e R s m args below meth c H locs cells slots Q (F0 m (pc + 1) ls (v :: rest)) → W p l e R s m args below meth c H locs cells slots Q (F0 m pc ls (.int j :: .ref ad :: rest)))
    (hpc : (prg M i).1 = pc) (hnx : (prg M (i + 1)).1 = pc + 1) (hE : gEF G s) (hV : gV M L S σ) (hk : gSC p l e R s m args below meth c Q G cells slots ly (mald ly bo S σ (fun S => (d, M, i + 1, L, S, σ)))) : gWS p l e R s m args below meth c Q G cells slots ly M i L S σ := by
  unfold mald at hk
  split at hk
  · rename_i z r S'
    cases hc : Nat.blt r ly.1 with
    | false => rw [hc] at hk; exact hk.elim
    | true =>
      rw [hc] at hk
      simp only [cond_true] at hk
      split at hk
      · rename_i c' n hlay
        cases hcb : (c' == bo) with
        | false => rw [hcb] at hk; exact hk.elim
        | true =>
          rw [hcb] at hk
          have hcb' : c' = bo := eq_of_beq hcb
          subst hcb'
          obtain ⟨hin, hk⟩ := hk
          intro H locs ls hw hs hl
          rw [hpc]
          obtain ⟨cell, g1, g2, g3, g4, g5⟩ := g_arr hE hw hs (blt_lt hc) hlay
          have hvz : vI z := vkv_hd hV.2.1
          have hi := i32_in hvz hin
          unfold minb at hin
          have hn : z.toNat < n := by
            have := of_decide_eq_true (bb hin).1
            have := of_decide_eq_true (bb hin).2
            omega
          refine row g1 g2 g3 (in_size hi g4.1) (by rw [i32_cl hvz]; exact g5 _ hn) ?_
          have K := hk ⟨hV.1, vkv_cons (vkv_tl (vkv_tl hV.2.1)) (hV.2.2.1 r _), hV.2.2.1, hV.2.2.2⟩ H locs ls hw hs hl
          rw [hnx] at K
          exact K
      · exact hk.elim
  · exact hk.elim
theorem st_iaload (hp : prg M i = (pc, .iaload, a, b, k0, sw)) (hok : okI M i pc .iaload a b k0 sw = true) (F : gCF G p s m args meth c M) (hV : gV M L S σ) (hk : gSC p l e R s m args below meth c Q G cells slots ly (mstepI ly d M i L S σ .iaload a b k0 sw)) : gWS p l e R s m args below meth c Q G cells slots ly M i L S σ := by
  obtain ⟨hx, hb, hml, hown, hts, hrt, hlk, hnm, hE⟩ := F
  simp only [okI, Bool.and_eq_true] at hok
  obtain ⟨h1, h2⟩ := hok
  exact mald_in false .iaload (fun g1 g2 g3 g4 g5 K => W.iald hx hb g1 g2 g3 g4 g5 rfl rfl (xdec_eq h1) K) (by rw [hp]) (xnx_eq h2) hE hV hk
theorem st_baload (hp : prg M i = (pc, .baload, a, b, k0, sw)) (hok : okI M i pc .baload a b k0 sw = true) (F : gCF G p s m args meth c M) (hV : gV M L S σ) (hk : gSC p l e R s m args below meth c Q G cells slots ly (mstepI ly d M i L S σ .baload a b k0 sw)) : gWS p l e R s m args below meth c Q G cells slots ly M i L S σ := by
  obtain ⟨hx, hb, hml, hown, hts, hrt, hlk, hnm, hE⟩ := F
  simp only [okI, Bool.and_eq_true] at hok
  obtain ⟨h1, h2⟩ := hok
  exact mald_in true .baload (fun g1 g2 g3 g4 g5 K => W.zald hx hb g1 g2 g3 g4 g5 rfl rfl (xdec_eq h1) K) (by rw [hp]) (xnx_eq h2) hE hV hk
theorem st_arraylength (hp : prg M i = (pc, .arraylength, a, b, k0, sw)) (hok : okI M i pc .arraylength a b k0 sw = true) (F : gCF G p s m args meth c M) (hsm : ∀ r n bo, ly.2.2 r = .inl (bo, n) → n < 2147483648) (hV : gV M L S σ) (hk : gSC p l e R s m args below meth c Q G cells slots ly (mstepI ly d M i L S σ .arraylength a b k0 sw)) : gWS p l e R s m args below meth c Q G cells slots ly M i L S σ := by
  obtain ⟨hx, hb, hml, hown, hts, hrt, hlk, hnm, hE⟩ := F
  simp only [okI, Bool.and_eq_true] at hok
  obtain ⟨h1, h2⟩ := hok
  have hpc : (prg M i).1 = pc := by rw [hp]
  simp only [mstepI, malen] at hk
  split at hk
  · rename_i r S'
    cases hc : Nat.blt r ly.1 with
    | false => rw [hc] at hk; exact hk.elim
    | true =>
      rw [hc] at hk
      simp only [cond_true] at hk
      split at hk
      · rename_i bo n hlay
        intro H locs ls hw hs hl
        rw [hpc]
        obtain ⟨cell, g1, g2, g3, g4, g5⟩ := g_arr hE hw hs (blt_lt hc) hlay
        have hn := hsm r n bo hlay
        refine W.alen (n := Int32.ofInt (n : Int)) hx hb g1 g2 (by rw [g4.2]; exact (Int32.ofInt_eq_ofNat).symm) rfl rfl (xdec_eq h1) ?_
        have K := hk ⟨hV.1, vkv_cons (vkv_tl hV.2.1) ⟨by omega, by omega⟩, hV.2.2.1, hV.2.2.2⟩ H locs ls hw hs hl
        rw [xnx_eq h2] at K
        exact K
      · exact hk.elim
  · exact hk.elim
theorem mast_in (bo : Bool) (row : ∀ {H : Heap} {locs : List Loc} {ls : Array Slot} {cell : Cell} {ad : Nat} {j x : Int32} {rest : List Value}, H[ad]? = some cell → s.isArrayOf cell (bif bo then .boolean else .int) → cell.vm ≠ .unknown → ¬ (j < 0 ∨ cell.slots.size ≤ j.toNatClampNeg) → (bo = true → x = 0 ∨ x = 1) → (∀ H' : Heap, H'[ad]? = some (cell.setSlot j.toNatClampNeg (.int x)) → H'.size = H.size → (∀ q, q ≠ ad → H'[q]? = H[q]?) → W p l e R s m args below meth c H' (locs ++ [⟨ad, j.toNatClampNeg⟩]) cells slots Q (F0 m (pc + 1) ls rest)) → W p l e R s m args below meth c H locs cells slots Q (F0 m pc ls (.int x :: .int j :: .ref ad :: rest)))
    (hpc : (prg M i).1 = pc) (hnx : (prg M (i + 1)).1 = pc + 1) (hE : gEF G s) (hV : gV M L S σ) (hk : gSC p l e R s m args below meth c Q G cells slots ly (mast ly bo S σ (fun S h => (d, M, i + 1, L, S, h)))) : gWS p l e R s m args below meth c Q G cells slots ly M i L S σ := by
  unfold mast at hk
  split at hk
  · rename_i v z r S'
    cases hc : (Nat.ble 4 r && Nat.blt r ly.1) with
    | false => rw [hc] at hk; exact hk.elim
    | true =>
      rw [hc] at hk
      simp only [cond_true] at hk
      have h4 := ble_le (bb hc).1
      have hlt := blt_lt (bb hc).2
      split at hk
      · rename_i c' n hlay
        cases hcb : (c' == bo) with
        | false => rw [hcb] at hk; exact hk.elim
        | true =>
          rw [hcb] at hk
          have hcb' : c' = bo := eq_of_beq hcb
          subst hcb'
          obtain ⟨hin, hk⟩ := hk
          have hvv : vI v := vkv_hd hV.2.1
          have hvz : vI z := vkv_hd (vkv_tl hV.2.1)
          have hb01 : c' = true → Int32.ofInt v = 0 ∨ Int32.ofInt v = 1 := by
            intro hc'
            subst hc'
            have h0 := (bb hin).2
            have h1 := of_decide_eq_true (bb h0).1
            have h2 := of_decide_eq_true (bb h0).2
            rcases (show v = 0 ∨ v = 1 by omega) with rfl | rfl
            · exact Or.inl rfl
            · exact Or.inr rfl
          have hin : minb z n = true := by
            cases c' with
            | false => exact hin
            | true => exact (bb hin).1
          intro H locs ls hw hs hl
          rw [hpc]
          obtain ⟨cell, g1, g2, g3, g4, g5⟩ := g_arr hE hw hs hlt hlay
          have hi := i32_in hvz hin
          have hcell : ∀ τ, gcell G ly.2.2 τ r = .inl (bif c' then G.2.1.2.1 else G.2.1.1, n, .inl (fun j => Int32.ofInt (τ r j))) := fun τ => by unfold gcell; rw [hlay]
          have hat := gws_Pat G hw.1 h4 hlt
          rw [hcell] at hat
          have ecell : cell = vp_cell (bif c' then G.2.1.2.1 else G.2.1.1) (n, .inl (fun j => Int32.ofInt (σ r j))) := Option.some.inj (g1.symm.trans hat)
          refine row g1 g2 g3 (in_size hi g4.1) hb01 (fun H1 e1 e2 e3 => ?_)
          have hat1 : va_at G.1 qC (gad G r, gcell G ly.2.2 (mup σ r z.toNat v) r) H1 := by
            rw [hcell]
            show H1[gad G r]? = some (vp_cell _ _)
            rw [e1, ecell, vp_cell_i, vp_cell_i, arrV_store, i32_cl hvz]
            congr 2
            funext q
            by_cases hq : q = z.toNat
            · subst hq; simp [updV, mup]
            · simp [updV, mup, hq]
          have hw1 : gWD G ly (mup σ r z.toNat v) H1 := gWD_upd (f' := ly.2.2) hw h4 e2 e3 hat1 gcell_up (fun j hj => ⟨rfl, fun n => if_neg (fun q => by omega)⟩)
          have K := hk ⟨hV.1, vkv_tl (vkv_tl (vkv_tl hV.2.1)), vkv_mup hV.2.2.1 hvv, hV.2.2.2⟩ H1 _ ls hw1 (hs.put (k := (Int32.ofInt z).toNatClampNeg) e2 e3 (by show G.2.2.2.1 ≤ gad G r; rw [gad_hi G h4]; omega)) hl
          rw [hnx] at K
          exact K
      · exact hk.elim
  · exact hk.elim
theorem st_iastore (hp : prg M i = (pc, .iastore, a, b, k0, sw)) (hok : okI M i pc .iastore a b k0 sw = true) (F : gCF G p s m args meth c M) (hV : gV M L S σ) (hk : gSC p l e R s m args below meth c Q G cells slots ly (mstepI ly d M i L S σ .iastore a b k0 sw)) : gWS p l e R s m args below meth c Q G cells slots ly M i L S σ := by
  obtain ⟨hx, hb, hml, hown, hts, hrt, hlk, hnm, hE⟩ := F
  simp only [okI, Bool.and_eq_true] at hok
  obtain ⟨h1, h2⟩ := hok
  exact mast_in false (fun g1 g2 g3 g4 _ K => W.iast hx hb g1 g2 g3 g4 rfl rfl (xdec_eq h1) K) (by rw [hp]) (xnx_eq h2) hE hV hk
theorem st_bastore (hp : prg M i = (pc, .bastore, a, b, k0, sw)) (hok : okI M i pc .bastore a b k0 sw = true) (F : gCF G p s m args meth c M) (hV : gV M L S σ) (hk : gSC p l e R s m args below meth c Q G cells slots ly (mstepI ly d M i L S σ .bastore a b k0 sw)) : gWS p l e R s m args below meth c Q G cells slots ly M i L S σ := by
  obtain ⟨hx, hb, hml, hown, hts, hrt, hlk, hnm, hE⟩ := F
  simp only [okI, Bool.and_eq_true] at hok
  obtain ⟨h1, h2⟩ := hok
  exact mast_in true (fun g1 g2 g3 g4 g5 K => W.zast hx hb g1 g2 g3 g4 rfl rfl (xdec_eq h1) (fun H' e1 e2 e3 => K H' (by rw [e1]; rcases g5 rfl with h | h <;> subst h <;> rfl) e2 e3)) (by rw [hp]) (xnx_eq h2) hE hV hk
theorem st_aaload (hp : prg M i = (pc, .aaload, a, b, k0, sw)) (hok : okI M i pc .aaload a b k0 sw = true) (F : gCF G p s m args meth c M) (hV : gV M L S σ) (hk : gSC p l e R s m args below meth c Q G cells slots ly (mstepI ly d M i L S σ .aaload a b k0 sw)) : gWS p l e R s m args below meth c Q G cells slots ly M i L S σ := by
  obtain ⟨hx, hb, hml, hown, hts, hrt, hlk, hnm, hE⟩ := F
  simp only [okI, Bool.and_eq_true] at hok
  obtain ⟨h1, h2⟩ := hok
  have hpc : (prg M i).1 = pc := by rw [hp]
  simp only [mstepI, maald] at hk
  split at hk
  · rename_i z r S'
    cases hc : (Nat.ble 4 r && Nat.blt r ly.1 && decide (0 ≤ z)) with
    | false => rw [hc] at hk; exact hk.elim
    | true =>
      rw [hc] at hk
      simp only [cond_true] at hk
      have h4 := ble_le (bb (bb hc).1).1
      have hlt := blt_lt (bb (bb hc).1).2
      have h0 := of_decide_eq_true (bb hc).2
      split at hk
      · rename_i t rs hlay
        split at hk
        · rename_i q hq
          have hvz : vI z := vkv_hd hV.2.1
          have hlen : z.toNat < rs.length := (List.getElem?_eq_some_iff.mp hq).1
          intro H locs ls hw hs hl
          rw [hpc]
          have hat := gws_Pat G hw.1 h4 hlt
          have hcell : gcell G ly.2.2 σ r = .inl (if t = 0 then G.2.1.2.2.1 else G.2.1.2.2.2, rs.length, .inr (.inr (.inr (.inr (fun j => (rs.getD j none).map (gad G)))))) := by unfold gcell; rw [hlay]
          rw [hcell] at hat
          have hat : H[gad G r]? = some (arrV (if t = 0 then G.2.1.2.2.1 else G.2.1.2.2.2) rs.length (fun j => va_rf ((rs.getD j none).map (gad G)))) := hat
          have hin : ¬ (Int32.ofInt z < 0 ∨ rs.length ≤ (Int32.ofInt z).toNatClampNeg) := by
            rw [i32_cl hvz, show (0 : Int32) = Int32.ofInt 0 from rfl, i32_lt hvz vI_0]
            omega
          have hv : rs.getD z.toNat none = some q := by rw [List.getD_eq_getElem?_getD, hq]; rfl
          have K := hk ⟨hV.1, vkv_cons (vkv_tl (vkv_tl hV.2.1)) trivial, hV.2.2.1, hV.2.2.2⟩ H locs ls hw hs hl
          rw [xnx_eq h2] at K
          by_cases ht : t = 0
          · rw [if_pos ht] at hat
            refine W.aald (v := .ref (gad G q)) (ty := .object "GridQuarrels$County") hx hb hat ((hE.1.2 2 _ rfl).1 _ _) rfl (fun q => by cases q) (by rw [arrV_size]; exact hin) (by rw [i32_cl hvz, arrV_read _ _ hlen, hv]; rfl) rfl rfl (xdec_eq h1) K
          · rw [if_neg ht] at hat
            refine W.aald (v := .ref (gad G q)) (ty := .array .int) hx hb hat ((hE.1.2 3 _ rfl).1 _ _) rfl (fun q => by cases q) (by rw [arrV_size]; exact hin) (by rw [i32_cl hvz, arrV_read _ _ hlen, hv]; rfl) rfl rfl (xdec_eq h1) K
        · exact hk.elim
      · exact hk.elim
  · exact hk.elim
theorem xdecS_eq {M pc : Nat} {ins : Instr} (h : xdecS M pc ins = true) : ∃ n, decode (mby M) pc = .ok (ins, n) := by
  unfold xdecS at h
  split at h
  · rename_i j n hd
    exact ⟨n, by rw [hd, of_decide_eq_true h]⟩
  · cases h
theorem st_tableswitch (df lo hi : Int) (offs : Array Int) (hp : prg M i = (pc, .tableswitch df lo hi offs, a, b, k0, sw)) (hok : okI M i pc (.tableswitch df lo hi offs) a b k0 sw = true) (F : gCF G p s m args meth c M) (hV : gV M L S σ) (hk : gSC p l e R s m args below meth c Q G cells slots ly (mstepI ly d M i L S σ (.tableswitch df lo hi offs) a b k0 sw)) : gWS p l e R s m args below meth c Q G cells slots ly M i L S σ := by
  obtain ⟨hx, hb, hml, hown, hts, hrt, hlk, hnm, hE⟩ := F
  simp only [okI, Bool.and_eq_true] at hok
  obtain ⟨⟨⟨⟨h1, h2⟩, h3⟩, h4⟩, h5⟩ := hok
  have hpc : (prg M i).1 = pc := by rw [hp]
  obtain ⟨n, hd⟩ := xdecS_eq h1
  have h3 := of_decide_eq_true h3
  have h4 := of_decide_eq_true h4
  have key : ∀ (j : Nat) (q : Int × Nat), sw[j]? = some q → ∃ off, offs[j]? = some off ∧ q.1 = lo + (j : Int) ∧ (pc : Int) + off = ((prg M q.2).1 : Int) := by
    intro j q hq
    have hl : j < sw.length := (List.getElem?_eq_some_iff.mp hq).1
    have h := List.all_eq_true.mp h5 j (List.mem_range.mpr hl)
    rw [hq] at h
    cases ho : offs[j]? with
    | none => rw [ho] at h; cases h
    | some off =>
      rw [ho] at h
      have h := bb h
      exact ⟨off, rfl, of_decide_eq_true h.1, xtg_eq h.2⟩
  simp only [mstepI] at hk
  split at hk
  · rename_i x S'
    have hvx : vI x := vkv_hd hV.2.1
    have hxi : (Int32.ofInt x).toInt = x := i32_toInt hvx.1 hvx.2
    simp only [gSC, List.find?_map] at hk
    cases hf : sw.find? ((fun q : Int × mmX => decide (x = q.1)) ∘ fun q : Int × Nat => (q.1, (d, M, q.2, L, S', σ))) with
    | some q =>
      rw [hf] at hk
      have hm := List.mem_of_find?_eq_some hf
      have h9 := List.find?_some hf
      have hxq : x = q.1 := of_decide_eq_true (p := x = q.1) h9
      obtain ⟨j, hj⟩ := List.getElem?_of_mem hm
      have hjl : j < sw.length := (List.getElem?_eq_some_iff.mp hj).1
      obtain ⟨off, ho, hlo, ht⟩ := key j q hj
      intro H locs ls hw hs hl
      rw [hpc]
      refine lv_tableIn hx hb hd (by rw [hxi]; omega) (by rw [hxi]; omega) (off := off) (by rw [hxi, show (x - lo).toNat = j by omega]; exact ho) ht ?_
      exact hk ⟨hV.1, vkv_tl hV.2.1, hV.2.2.1, hV.2.2.2⟩ H locs ls hw hs hl
    | none =>
      rw [hf] at hk
      intro H locs ls hw hs hl
      rw [hpc]
      refine lv_tableOut hx hb hd ?_ (xtg_eq h2) ?_
      · rw [hxi]
        apply Classical.byContradiction
        intro hc
        have hj : (x - lo).toNat < sw.length := by omega
        obtain ⟨off, ho, hlo, ht⟩ := key (x - lo).toNat _ (List.getElem?_eq_getElem hj)
        have := List.find?_eq_none.mp hf _ (List.getElem_mem hj)
        apply this
        show decide (x = _) = true
        rw [hlo]
        apply decide_eq_true
        omega
      · exact hk ⟨hV.1, vkv_tl hV.2.1, hV.2.2.1, hV.2.2.2⟩ H locs ls hw hs hl
  · exact hk.elim
theorem look_off {x df : Int} {f : Int × Nat → Int × mmX} (hf1 : ∀ q, (f q).1 = q.1) : ∀ (sw : List (Int × Nat)) (ps : List (Int × Int)), sw.map (fun q => q.1) = ps.map (fun q => q.1) → (sw.zip ps).all (fun q => xtg M q.1.2 pc q.2.2) = true → (pc : Int) + df = ((prg M a).1 : Int) →
    (pc : Int) + Op.lookupswitch.offset ps df x = ((prg M (match sw.find? ((fun q : Int × mmX => decide (x = q.1)) ∘ f) with | some q => q.2 | none => a)).1 : Int)
  | [], [], _, _, h => h
  | [], _ :: _, h, _, _ => by cases h
  | _ :: _, [], h, _, _ => by cases h
  | q :: sw, r :: ps, h, hz, hd => by
    simp only [List.map_cons, List.cons.injEq] at h
    simp only [List.zip_cons_cons, List.all_cons, Bool.and_eq_true] at hz
    have ih := look_off (x := x) hf1 sw ps h.2 hz.2 hd
    obtain ⟨r1, r2⟩ := r
    rw [Op.lookupswitch.offset_cons, List.find?_cons]
    have hr : q.1 = r1 := h.1
    by_cases e : x = q.1
    · have e1 : ((fun q : Int × mmX => decide (x = q.1)) ∘ f) q = true := decide_eq_true (by rw [hf1]; exact e)
      rw [e1]
      simp only
      rw [if_pos (by first | exact hr ▸ e | exact (hr ▸ e).symm)]
      exact xtg_eq hz.1
    · have e1 : ((fun q : Int × mmX => decide (x = q.1)) ∘ f) q = false := decide_eq_false (by rw [hf1]; exact e)
      rw [e1]
      simp only
      rw [if_neg (by first | exact fun z => e (by rw [hr]; exact z) | exact fun z => e (by rw [hr]; exact z.symm))]
      exact ih
theorem st_lookupswitch (df : Int) (ps : Array (Int × Int)) (hp : prg M i = (pc, .lookupswitch df ps, a, b, k0, sw)) (hok : okI M i pc (.lookupswitch df ps) a b k0 sw = true) (F : gCF G p s m args meth c M) (hV : gV M L S σ) (hk : gSC p l e R s m args below meth c Q G cells slots ly (mstepI ly d M i L S σ (.lookupswitch df ps) a b k0 sw)) : gWS p l e R s m args below meth c Q G cells slots ly M i L S σ := by
  obtain ⟨hx, hb, hml, hown, hts, hrt, hlk, hnm, hE⟩ := F
  simp only [okI, Bool.and_eq_true] at hok
  obtain ⟨⟨⟨⟨h1, h2⟩, h3⟩, h4⟩, h5⟩ := hok
  have hpc : (prg M i).1 = pc := by rw [hp]
  obtain ⟨n, hd⟩ := xdecS_eq h1
  have h4 := of_decide_eq_true h4
  simp only [mstepI] at hk
  split at hk
  · rename_i x S'
    have hvx : vI x := vkv_hd hV.2.1
    have hxi : (Int32.ofInt x).toInt = x := i32_toInt hvx.1 hvx.2
    simp only [gSC, List.find?_map] at hk
    have ho := look_off (M := M) (pc := pc) (a := a) (x := x) (df := df) (f := fun q : Int × Nat => (q.1, (d, M, q.2, L, S', σ))) (fun _ => rfl) sw ps.toList h4 h5 (xtg_eq h2)
    intro H locs ls hw hs hl
    rw [hpc]
    refine lv_lookup hx hb hd h3 (by rw [hxi]) ho ?_
    cases hf : sw.find? ((fun q : Int × mmX => decide (x = q.1)) ∘ fun q : Int × Nat => (q.1, (d, M, q.2, L, S', σ))) with
    | some q =>
      rw [hf] at hk
      exact hk ⟨hV.1, vkv_tl hV.2.1, hV.2.2.1, hV.2.2.2⟩ H locs ls hw hs hl
    | none =>
      rw [hf] at hk
      exact hk ⟨hV.1, vkv_tl hV.2.1, hV.2.2.1, hV.2.2.2⟩ H locs ls hw hs hl
  · exact hk.elim
theorem mwords_sum : ∀ S : List mmV, ((S.map (grv G)).map (fun v => v.category)).sum = mwords S
  | [] => rfl
  | v :: S => by
    simp only [List.map_cons, List.sum_cons, mwords, mwords_sum S]
    rcases v with z | z | r | u <;> rfl
theorem st_mathmax (k : Nat) (hp : prg M i = (pc, .invokestatic k, a, 98, k0, sw)) (hok : okI M i pc (.invokestatic k) a 98 k0 sw = true) (F : gCF G p s m args meth c M) (hR : d ≤ R.frames ∧ 64 * d ≤ R.locals) (hcl : cells ≤ R.cells ∧ slots ≤ R.slots) (hV : gV M L S σ) (hk : gSC p l e R s m args below meth c Q G cells slots ly (mstepI ly d M i L S σ (.invokestatic k) a 98 k0 sw)) : gWS p l e R s m args below meth c Q G cells slots ly M i L S σ := by
  obtain ⟨hx, hb, hml, hown, hts, hrt, hlk, hnm, hE⟩ := F
  simp only [okI, Bool.and_eq_true] at hok
  obtain ⟨⟨h1, h2⟩, h3⟩ := hok
  have hpc : (prg M i).1 = pc := by rw [hp]
  have h3 : tbAt (xkp M k) (.methodLink (mnm M).cls k Lib.Math.max.name) = true := h3
  change gSC p l e R s m args below meth c Q G cells slots ly (bif d == 0 || !(Nat.ble (mwords S) 10) then rFail else mbin mmaxi S (fun S => rNext (d, M, i + 1, L, S, σ))) at hk
  cases hc : (d == 0 || !(Nat.ble (mwords S) 10)) with
  | true => rw [hc] at hk; exact hk.elim
  | false =>
    rw [hc] at hk
    simp only [cond_false, mbin] at hk
    have hd0 : ¬ d = 0 := by intro q; subst q; cases hc
    have hw8 : mwords S ≤ 10 := by
      have := (Bool.or_eq_false_iff.mp hc).2
      exact ble_le (by simpa using this)
    split at hk
    · rename_i y x S'
      have hw8 : mwords S' ≤ 8 := by simp only [mwords, mword] at hw8; omega
      intro H locs ls hw hs hl
      rw [hpc]
      refine va_mmax hx hb (by rw [hml, ← hV.2.2.2]; exact hl.1.symm) hown (hts _ (tbAt_mem h3)) (hts _ (tbAt_mem (k := 2236) (by decide +kernel))) (hts _ (tbAt_mem (k := 1010) (by decide +kernel))) (hts _ (tbAt_mem (k := 2237) (by decide +kernel))) (by omega) (by rw [mwords_sum]; omega) hcl.1 hcl.2 (xdec_eq h1) ?_
      have hvy : vI y := vkv_hd hV.2.1
      have hvx : vI x := vkv_hd (vkv_tl hV.2.1)
      have e : (if Int32.ofInt x < Int32.ofInt y then Int32.ofInt y else Int32.ofInt x) = Int32.ofInt (mmaxi x y) := by
        unfold mmaxi
        by_cases q : x < y
        · rw [if_pos ((i32_lt hvx hvy).mpr q), if_pos q]
        · rw [if_neg (fun z => q ((i32_lt hvx hvy).mp z)), if_neg q]
      rw [e]
      have K := hk ⟨hV.1, vkv_cons (vkv_tl (vkv_tl hV.2.1)) (by show vI (mmaxi x y); unfold mmaxi; split <;> assumption), hV.2.2.1, hV.2.2.2⟩ H locs ls hw hs hl
      rw [xnx_eq h2] at K
      exact K
    · exact hk.elim
theorem st_mathmin (k : Nat) (hp : prg M i = (pc, .invokestatic k, a, 97, k0, sw)) (hok : okI M i pc (.invokestatic k) a 97 k0 sw = true) (F : gCF G p s m args meth c M) (hR : d ≤ R.frames ∧ 64 * d ≤ R.locals) (hcl : cells ≤ R.cells ∧ slots ≤ R.slots) (hV : gV M L S σ) (hk : gSC p l e R s m args below meth c Q G cells slots ly (mstepI ly d M i L S σ (.invokestatic k) a 97 k0 sw)) : gWS p l e R s m args below meth c Q G cells slots ly M i L S σ := by
  obtain ⟨hx, hb, hml, hown, hts, hrt, hlk, hnm, hE⟩ := F
  simp only [okI, Bool.and_eq_true] at hok
  obtain ⟨⟨h1, h2⟩, h3⟩ := hok
  have hpc : (prg M i).1 = pc := by rw [hp]
  have h3 : tbAt (xkp M k) (.methodLink (mnm M).cls k Lib.Math.min.name) = true := h3
  change gSC p l e R s m args below meth c Q G cells slots ly (bif d == 0 || !(Nat.ble (mwords S) 10) then rFail else mbin mmini S (fun S => rNext (d, M, i + 1, L, S, σ))) at hk
  cases hc : (d == 0 || !(Nat.ble (mwords S) 10)) with
  | true => rw [hc] at hk; exact hk.elim
  | false =>
    rw [hc] at hk
    simp only [cond_false, mbin] at hk
    have hd0 : ¬ d = 0 := by intro q; subst q; cases hc
    have hw8 : mwords S ≤ 10 := by
      have := (Bool.or_eq_false_iff.mp hc).2
      exact ble_le (by simpa using this)
    split at hk
    · rename_i y x S'
      have hw8 : mwords S' ≤ 8 := by simp only [mwords, mword] at hw8; omega
      intro H locs ls hw hs hl
      rw [hpc]
      refine va_mmin hx hb (by rw [hml, ← hV.2.2.2]; exact hl.1.symm) hown (hts _ (tbAt_mem h3)) (hts _ (tbAt_mem (k := 2196) (by decide +kernel))) (hts _ (tbAt_mem (k := 1010) (by decide +kernel))) (hts _ (tbAt_mem (k := 2197) (by decide +kernel))) (by omega) (by rw [mwords_sum]; omega) hcl.1 hcl.2 (xdec_eq h1) ?_
      have hvy : vI y := vkv_hd hV.2.1
      have hvx : vI x := vkv_hd (vkv_tl hV.2.1)
      have e : (if Int32.ofInt y < Int32.ofInt x then Int32.ofInt y else Int32.ofInt x) = Int32.ofInt (mmini x y) := by
        unfold mmini
        by_cases q : y < x
        · rw [if_pos ((i32_lt hvy hvx).mpr q), if_pos q]
        · rw [if_neg (fun z => q ((i32_lt hvy hvx).mp z)), if_neg q]
      rw [e]
      have K := hk ⟨hV.1, vkv_cons (vkv_tl (vkv_tl hV.2.1)) (by show vI (mmini x y); unfold mmini; split <;> assumption), hV.2.2.1, hV.2.2.2⟩ H locs ls hw hs hl
      rw [xnx_eq h2] at K
      exact K
    · exact hk.elim
/-- System.arraycopy between two int arrays: the heap's size stays -/
theorem g_copy {H : Heap} {locs : List Loc} {cc : ByteArray} (hexec : p.tables.exec = Jvm.exec) (hb : c.code = cc) {ls : Array Slot} (hml : c.maxLocals = ls.size) {own : String} {index : Nat} (hown : s.vm.findClass own = some m.cls) (hlink : (Cond.methodLink own index arraycopyName).before args s = true) (hnat : (Cond.native arraycopyName).before args s = true) (hstat : (Cond.static arraycopyName).before args s = true) (hini : (Cond.initialized "java/lang/System").before args s = true)
    {a0 a1 : Nat} {c0 : ClassId} {n0 n1 : Nat} {f g : Nat → Int32} (hAr : ArrOfT s c0 .int) (hc0 : H[a0]? = some (vp_cell c0 (n0, .inl f))) (hc1 : H[a1]? = some (vp_cell c0 (n1, .inl g)))
    {sp dp n : Int32} (h1 : ¬ sp < 0) (h2 : ¬ dp < 0) (h3 : ¬ n < 0) (h4 : sp.toNatClampNeg + n.toNatClampNeg ≤ n0) (h5 : dp.toNatClampNeg + n.toNatClampNeg ≤ n1) {rest : List Value}
    (hframes : 1 ≤ R.frames) (hlocals : (rest.map fun v => v.category).sum + (nativeFrameWords "java/lang/System" "arraycopy" 5 + 11) ≤ R.locals) (hdg : decode cc pc = .ok (.invokestatic index, 3))
    (kk : ∀ (H1 : Heap) (locs1 : List Loc), H1[a1]? = some (vp_cell c0 (n1, .inl (va_cpy f g sp.toNatClampNeg dp.toNatClampNeg n.toNatClampNeg))) → H1.size = H.size → (∀ q : Nat, q ≠ a1 → H1[q]? = H[q]?) → (∀ q ∈ locs1, q ∈ locs ∨ q.base = a1) → W p l e R s m args below meth c H1 locs1 cells slots Q (F0 m (pc + 3) ls rest)) : W p l e R s m args below meth c H locs cells slots Q (F0 m pc ls (.int n :: .int dp :: .ref a1 :: .int sp :: .ref a0 :: rest)) := by
  have nn : ∀ z : Int32, ¬ z < 0 → z.toInt = (z.toNatClampNeg : Int) := by
    intro z hz
    have hz0 : (0 : Int) ≤ z.toInt := by
      have := Int32.not_lt.mp hz
      simpa using Int32.le_iff_toInt_le.mp this
    show z.toInt = ((z.toInt.toNat : Nat) : Int)
    omega
  intro T hT X
  obtain ⟨-, k0, hk0, cm0, hkk0⟩ := hAr n0 (fun j => .int (f j))
  obtain ⟨-, k1, hk1, cm1, hkk1⟩ := hAr n1 (fun j => .int (g j))
  obtain ⟨vm', X', step⟩ := X.arraycopy hexec hown hlink hnat hstat hini (src := a0) (dst := a1) (cs := vp_cell c0 (n0, .inl f)) (cd := vp_cell c0 (n1, .inl g)) (srcPos := sp) (destPos := dp) (n := n) (by rw [hT]; exact hc0) (by rw [hT]; exact hc1)
    (fun _ h => by cases h) (fun _ h => by cases h) (fun h => by cases h) (fun h => by cases h) hk0 hk1 hkk0 hkk1 (by simp [refKind]) h1 h2 h3
    (by rw [nn sp h1, nn n h3]; show ¬ _ > ((arrV c0 n0 (fun j => .int (f j))).slots.size : Int); rw [arrV_size]; omega)
    (by rw [nn dp h2, nn n h3]; show ¬ _ > ((arrV c0 n1 (fun j => .int (g j))).slots.size : Int); rw [arrV_size]; omega)
    (fun vm₁ _ i hi => by
      have e : (vp_cell c0 (n0, .inl f)).slots.getD (sp.toNatClampNeg + i) .null = .int (f (sp.toNatClampNeg + i)) := by
        show (arrV c0 n0 (fun j => .int (f j))).slots.getD _ _ = _
        rw [Array.getD_eq_getD_getElem?, arrV_read _ _ (by omega)]
        rfl
      refine ⟨?_, ?_⟩
      · rw [e]
        rfl
      · rw [e]
        exact trivial)
    (g := F0 m pc ls (.int n :: .int dp :: .ref a1 :: .int sp :: .ref a0 :: rest)) rfl (by rw [hml]) (rest := rest) rfl (by rw [hb]; exact hdg) hframes (by show 2 * 0 + _ + _ ≤ _; omega)
  have e1 : copied (vp_cell c0 (n0, .inl f)) (vp_cell c0 (n1, .inl g)) sp dp n = vp_cell c0 (n1, .inl (va_cpy f g sp.toNatClampNeg dp.toNatClampNeg n.toNatClampNeg)) := va_copied (fun z => .int z) c0 c0 f g h4
  rw [e1] at X' step
  have hl : a1 < H.size := (Array.getElem?_eq_some_iff.mp hc1).1
  have hheap : ((T.setVm vm').setCell a1 (vp_cell c0 (n1, .inl (va_cpy f g sp.toNatClampNeg dp.toNatClampNeg n.toNatClampNeg)))).heap = H.setIfInBounds a1 (vp_cell c0 (n1, .inl (va_cpy f g sp.toNatClampNeg dp.toNatClampNeg n.toNatClampNeg))) := by rw [← hT]; rfl
  have oq : ∀ q : Nat, q ≠ a1 → (H.setIfInBounds a1 (vp_cell c0 (n1, .inl (va_cpy f g sp.toNatClampNeg dp.toNatClampNeg n.toNatClampNeg))))[q]? = H[q]? := fun q hq => by simp [Array.getElem?_setIfInBounds, Ne.symm hq]
  obtain ⟨t, b1, b2⟩ := kk _ _ (show (H.setIfInBounds a1 _)[a1]? = some _ by simp [Array.getElem?_setIfInBounds, hl]) (by simp) oq (fun q hq => by
      rcases List.mem_append.mp hq with h | h
      · exact Or.inl h
      · obtain ⟨z, -, hz⟩ := List.mem_map.mp h
        rw [← hz]
        exact Or.inr rfl) _ hheap X'
  exact ⟨t, step t b1, b2⟩
theorem gcell_cpy {f : Nat → mmC} {k0 s0 k t0 n : Nat} : ∀ j, j ≠ k → gcell G f (mcpy σ k0 s0 k t0 n) j = gcell G f σ j := by
  intro j hj
  unfold gcell
  have e : ∀ z, mcpy σ k0 s0 k t0 n j z = σ j z := fun z => if_neg (fun q => hj q.1)
  have e2 : ∀ z o, gfv G (mcpy σ k0 s0 k t0 n) j z o = gfv G σ j z o := fun z o => by cases o <;> simp only [gfv, e]
  simp only [e, e2]
theorem st_arraycopy (k : Nat) (hp : prg M i = (pc, .invokestatic k, a, 99, k0, sw)) (hok : okI M i pc (.invokestatic k) a 99 k0 sw = true) (F : gCF G p s m args meth c M) (hR : d ≤ R.frames ∧ 64 * d ≤ R.locals) (hV : gV M L S σ) (hk : gSC p l e R s m args below meth c Q G cells slots ly (mstepI ly d M i L S σ (.invokestatic k) a 99 k0 sw)) : gWS p l e R s m args below meth c Q G cells slots ly M i L S σ := by
  obtain ⟨hx, hb, hml, hown, hts, hrt, hlk, hnm, hE⟩ := F
  simp only [okI, Bool.and_eq_true] at hok
  obtain ⟨⟨h1, h2⟩, h3⟩ := hok
  have hpc : (prg M i).1 = pc := by rw [hp]
  have h3 : tbAt (xkp M k) (.methodLink (mnm M).cls k arraycopyName) = true := h3
  change gSC p l e R s m args below meth c Q G cells slots ly (bif d == 0 then rFail else mcopy ly S σ (fun S h => (d, M, i + 1, L, S, h))) at hk
  cases hc : (d == 0) with
  | true => rw [hc] at hk; exact hk.elim
  | false =>
    rw [hc] at hk
    have hd0 : ¬ d = 0 := by intro q; subst q; cases hc
    simp only [cond_false, mcopy] at hk
    split at hk
    · rename_i n dp kb sp ka S'
      cases hcc : (Nat.ble 4 ka && Nat.blt ka ly.1 && Nat.ble 4 kb && Nat.blt kb ly.1 && Nat.ble (mwords S') 8) with
      | false => rw [hcc] at hk; exact hk.elim
      | true =>
        rw [hcc] at hk
        simp only [cond_true] at hk
        have ha4 := ble_le (bb (bb (bb (bb hcc).1).1).1).1
        have halt := blt_lt (bb (bb (bb (bb hcc).1).1).1).2
        have hb4 := ble_le (bb (bb (bb hcc).1).1).2
        have hblt := blt_lt (bb (bb hcc).1).2
        have hw8 := ble_le (bb hcc).2
        split at hk
        · rename_i n0 n1 hla hlb
          obtain ⟨hin, hk⟩ := hk
          have hsp0 := of_decide_eq_true (bb (bb (bb (bb hin).1).1).1).1
          have hdp0 := of_decide_eq_true (bb (bb (bb (bb hin).1).1).1).2
          have hn0 := of_decide_eq_true (bb (bb (bb hin).1).1).2
          have hs1 := of_decide_eq_true (bb (bb hin).1).2
          have hd1 := of_decide_eq_true (bb hin).2
          have hvn : vI n := vkv_hd hV.2.1
          have hvdp : vI dp := vkv_hd (vkv_tl hV.2.1)
          have hvsp : vI sp := vkv_hd (vkv_tl (vkv_tl (vkv_tl hV.2.1)))
          intro H locs ls hw hs hl
          rw [hpc]
          have hcellA : gcell G ly.2.2 σ ka = .inl (G.2.1.1, n0, .inl (fun j => Int32.ofInt (σ ka j))) := by unfold gcell; rw [hla]; rfl
          have hcellB : ∀ τ, gcell G ly.2.2 τ kb = .inl (G.2.1.1, n1, .inl (fun j => Int32.ofInt (τ kb j))) := fun τ => by unfold gcell; rw [hlb]; rfl
          have hc0 := gws_Pat G hw.1 ha4 halt
          rw [hcellA] at hc0
          have hc1 := gws_Pat G hw.1 hb4 hblt
          rw [hcellB] at hc1
          have neg : ∀ z : Int, vI z → 0 ≤ z → ¬ Int32.ofInt z < 0 := fun z hz h0 => by
            rw [show (0 : Int32) = Int32.ofInt 0 from rfl, i32_lt hz vI_0]; omega
          have K0 := fun (H1 : Heap) (locs1 : List Loc) (hw1 : gWD G ly (mcpy σ ka sp.toNat kb dp.toNat n.toNat) H1) (hs1 : va_S (gA G) s.heap H1 locs1) => hk ⟨hV.1, vkv_tl (vkv_tl (vkv_tl (vkv_tl (vkv_tl hV.2.1)))), (by intro x j; show vI (mcpy σ ka sp.toNat kb dp.toNat n.toNat x j); unfold mcpy; split <;> exact hV.2.2.1 _ _), hV.2.2.2⟩ H1 locs1 ls hw1 hs1 hl
          refine g_copy hx hb (by rw [hml, ← hV.2.2.2]; exact hl.1.symm) hown (hts _ (tbAt_mem h3)) (hts _ (tbAt_mem (k := 2050) (by decide +kernel))) (hts _ (tbAt_mem (k := 2049) (by decide +kernel))) (hts _ (tbAt_mem (k := 1009) (by decide +kernel))) (hE.1.2 0 _ rfl).1 hc0 hc1 (neg sp hvsp hsp0) (neg dp hvdp hdp0) (neg n hvn hn0) (by rw [i32_cl hvsp, i32_cl hvn]; omega) (by rw [i32_cl hvdp, i32_cl hvn]; omega) (by omega) (by rw [mwords_sum]; have : nativeFrameWords "java/lang/System" "arraycopy" 5 ≤ 30 := (by decide +kernel); omega) (xdec_eq h1) (fun H1 locs1 e1 e2 e3 e4 => ?_)
          rw [i32_cl hvsp, i32_cl hvdp, i32_cl hvn] at e1
          have hw1 : gWD G ly (mcpy σ ka sp.toNat kb dp.toNat n.toNat) H1 := by
            refine gWD_upd (f' := ly.2.2) hw hb4 e2 e3 ?_ gcell_cpy (fun j hj => ⟨rfl, fun z => if_neg (fun q => by omega)⟩)
            rw [hcellB]
            show H1[gad G kb]? = some (vp_cell _ _)
            rw [e1]
            congr 2
            show (n1, Sum.inl _) = (n1, Sum.inl _)
            congr 2
            funext j
            unfold va_cpy mcpy
            by_cases q : dp.toNat ≤ j ∧ j < dp.toNat + n.toNat
            · rw [if_pos q, if_pos ⟨rfl, q⟩]
            · rw [if_neg q, if_neg (fun z => q z.2)]
          have K := K0 H1 locs1 hw1 ⟨by rw [e2]; exact hs.1, fun q g1 g2 => by rw [e3 q (fun z => g2 (by rw [z]; show G.2.2.2.1 ≤ gad G kb; rw [gad_hi G hb4]; omega))]; exact hs.2.1 q g1 g2, fun q hq => (e4 q hq).elim (hs.2.2 q) (fun z => by rw [z]; show G.2.2.2.1 ≤ gad G kb; rw [gad_hi G hb4]; omega)⟩
          rw [xnx_eq h2] at K
          exact K
        · exact hk.elim
    · exact hk.elim
end HQ
