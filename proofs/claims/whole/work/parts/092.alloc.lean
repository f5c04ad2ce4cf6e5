section AL
variable {p : Program} {l : Launch} {e : Env} {R : Room} {s : State} {m : MethodId} {args : Array Value} {below : List Frame} {meth : Method} {c : Code} {Q : State → Prop} {G : mmG} {cells slots : Nat} {ly : mmL}
variable {d M i pc a b : Nat} {L S : List mmV} {σ : mmSt} {k0 : Int} {sw : List (Int × Nat)}
/-- a cell is made -/
theorem gWD_push {ly : mmL} {σ σ' : mmSt} {f' : Nat → mmC} {H H1 : Heap} {sl : Nat} (h : gWD G ly σ H) (hz : H1.size = H.size + 1) (oq : ∀ q : Nat, q < H.size → H1[q]? = H[q]?)
    (he : va_at G.1 qC (H.size, gcell G f' σ' ly.1) H1) (ho : ∀ j, j ≠ ly.1 → gcell G f' σ' j = gcell G ly.2.2 σ j) (hro : ∀ j, j < 4 → f' j = ly.2.2 j ∧ ∀ i, σ' j i = σ j i) : gWD G (ly.1 + 1, sl, f') σ' H1 := by
  obtain ⟨hP, hs, h4', hr⟩ := h
  refine ⟨gws_P G (fun j hj hl => ?_), by rw [hz, hs]; show _ = _ + (ly.1 + 1 - 4); omega, by show 4 ≤ ly.1 + 1; omega, fun j hj => ⟨(hro j hj).1.trans (hr j hj).1, fun i => ((hro j hj).2 i).trans ((hr j hj).2 i)⟩⟩
  have hl : j < ly.1 + 1 := hl
  by_cases e : j = ly.1
  · subst e
    rw [show gad G ly.1 = H.size by rw [gad_hi G h4', hs]]
    exact he
  · have h1 := gws_Pat G hP hj (show j < ly.1 by omega)
    show va_at G.1 qC (gad G j, gcell G f' σ' j) H1
    rw [ho j e]
    refine h1.kept (oq _ ?_)
    show gad G j < H.size
    rw [gad_hi G hj, hs]
    omega
theorem gcell_new {f : Nat → mmC} {k : Nat} {x : mmC} : ∀ j, j ≠ k → gcell G (mlay f k x) (mzero σ k) j = gcell G f σ j := by
  intro j hj
  unfold gcell
  have e0 : mlay f k x j = f j := if_neg hj
  have e : ∀ n, mzero σ k j n = σ j n := fun n => if_neg hj
  have e2 : ∀ n o, gfv G (mzero σ k) j n o = gfv G σ j n o := fun n o => by cases o <;> simp only [gfv, e]
  simp only [e0, e, e2]
theorem gcell_lay {f : Nat → mmC} {k : Nat} {x : mmC} : ∀ j, j ≠ k → gcell G (mlay f k x) σ j = gcell G f σ j := by
  intro j hj
  unfold gcell
  have e0 : mlay f k x j = f j := if_neg hj
  simp only [e0]
theorem mzero_rng (h : ∀ x j, vI (σ x j)) (k : Nat) : ∀ x j, vI (mzero σ k x j) := fun x j => by
  unfold mzero; split
  · exact vI_0
  · exact h x j
theorem va_S_push {A : Nat → Prop} {H0 H H1 : Heap} {locs : List Loc} (h : va_S A H0 H locs) (hz : H.size ≤ H1.size) (oq : ∀ q : Nat, q < H.size → H1[q]? = H[q]?) : va_S A H0 H1 locs :=
  ⟨Nat.le_trans h.1 hz, fun q h1 h2 => (oq q (Nat.lt_of_lt_of_le h1 h.1)).trans (h.2.1 q h1 h2), h.2.2⟩
theorem qdef : ∀ (b : Nat) (C : String) (T : u_T) (N : Nat), qC[b]? = some (C, T, N) → ∀ j, j < N → ((mdef b)[j]? = some none ∧ defaultValue (qyy b j) = .int 0) ∨ ((mdef b)[j]? = some (some none) ∧ defaultValue (qyy b j) = .null)
  | 0, _, _, _, h => by cases h; decide +kernel
  | 1, _, _, _, h => by cases h; decide +kernel
  | 2, _, _, _, h => by cases h; decide +kernel
  | 3, _, _, _, h => by cases h; decide +kernel
  | 4, _, _, _, h => by cases h; decide +kernel
  | 5, _, _, _, h => by cases h; decide +kernel
  | 6, _, _, _, h => by cases h; decide +kernel
  | 7, _, _, _, h => by cases h; decide +kernel
  | b + 8, _, _, _, h => by simp [qC] at h
/-- what is owed behind a making -/
def gAC (p : Program) (l : Launch) (e : Env) (R : Room) (s : State) (m : MethodId) (args : Array Value) (below : List Frame) (meth : Method) (c : Code) (Q : State → Prop) (G : mmG) (cells slots : Nat) (ly : mmL) (r : Option (mmL × mmX)) : Prop := match r with
  | none => False
  | some (ly', x) => cells + (ly'.1 - ly.1) ≤ R.cells ∧ slots + (ly'.2.1 - ly.2.1) ≤ R.slots ∧ gWX p l e R s m args below meth c Q G (cells + (ly'.1 - ly.1)) (slots + (ly'.2.1 - ly.2.1)) ly' x
theorem al_newarray (t : ArrayType) (hp : prg M i = (pc, .newarray t, a, b, k0, sw)) (hok : okI M i pc (.newarray t) a b k0 sw = true) (F : gCF G p s m args meth c M) (hV : gV M L S σ) (hk : gAC p l e R s m args below meth c Q G cells slots ly (mallocI ly d M i L S σ (.newarray t) a b k0)) : gWS p l e R s m args below meth c Q G cells slots ly M i L S σ := by
  obtain ⟨hx, hb, hml, hown, hts, hrt, hlk, hnm, hE⟩ := F
  simp only [okI, Bool.and_eq_true] at hok
  obtain ⟨⟨h1, h2⟩, h3⟩ := hok
  have hpc : (prg M i).1 = pc := by rw [hp]
  simp only [mallocI] at hk
  split at hk
  · rename_i n S'
    cases hc : (decide (0 ≤ n) && decide (n ≤ 65536)) with
    | false => rw [hc] at hk; exact hk.elim
    | true =>
      rw [hc] at hk
      have hn0 := of_decide_eq_true (bb hc).1
      have hn1 := of_decide_eq_true (bb hc).2
      obtain ⟨hcl, hsl, hk⟩ := hk
      rw [show ly.1 + 1 - ly.1 = 1 by omega] at hcl
      rw [show ly.2.1 + n.toNat - ly.2.1 = n.toNat by omega] at hsl
      have e1 : ly.1 + 1 - ly.1 = 1 := by omega
      have e2 : ly.2.1 + n.toNat - ly.2.1 = n.toNat := by omega
      have hvn : vI n := vkv_hd hV.2.1
      have hcn := i32_cl hvn
      have hneg : ¬ Int32.ofInt n < 0 := by rw [show (0 : Int32) = Int32.ofInt 0 from rfl, i32_lt hvn vI_0]; omega
      have key : ∀ (ty : FieldType) (cA : ClassId) (bo : Bool), newarray.typeOf t = ty → (a == 1) = bo → (Cond.arrayClass ty).before args s = true → s.vm.findClass ("[" ++ ty.toString) = some cA → cA = (bif bo then G.2.1.2.1 else G.2.1.1) → componentBytes ty ≤ 8 → defaultValue ty = .int 0 → gWS p l e R s m args below meth c Q G cells slots ly M i L (.inl n :: S') σ := by
        intro ty cA bo hty hbo harr hfc hcA hcb hdv H locs ls hw hs hl
        subst hty
        rw [hpc]
        have hbyt : n.toNat * componentBytes (newarray.typeOf t) ≤ 536870912 := Nat.le_trans (Nat.mul_le_mul (show n.toNat ≤ 65536 by omega) hcb) (by decide)
        refine va_newaK hx hb harr rfl (xdec_eq h1) rfl hneg (N := n.toNat) hcn hbyt hcl hsl rfl (fun H1 cA' g1 g2 g3 g4 g5 => ?_)
        have hcA' : cA' = cA := Option.some.inj (g5.symm.trans hfc)
        subst hcA'
        have hcell : gcell G (mlay ly.2.2 ly.1 (.inl (a == 1, n.toNat))) (mzero σ ly.1) ly.1 = .inl (cA', n.toNat, .inl (fun _ => 0)) := by
          unfold gcell
          rw [show mlay ly.2.2 ly.1 (.inl (a == 1, n.toNat)) ly.1 = .inl (a == 1, n.toNat) from if_pos rfl]
          have hz : (fun j => Int32.ofInt (mzero σ ly.1 ly.1 j)) = fun _ => (0 : Int32) := funext fun j => by rw [show mzero σ ly.1 ly.1 j = 0 from if_pos rfl]; rfl
          simp only [hbo, ← hcA, hz]
        have hw1 : gWD G (ly.1 + 1, ly.2.1 + n.toNat, mlay ly.2.2 ly.1 (.inl (a == 1, n.toNat))) (mzero σ ly.1) H1 := by
          refine gWD_push hw g2 g3 ?_ gcell_new (fun j hj => ⟨if_neg (by have := hw.2.2.1; omega), fun z => if_neg (by have := hw.2.2.1; omega)⟩)
          rw [hcell]
          show H1[H.size]? = some (vp_cell _ _)
          rw [g1, hdv]
          rfl
        have K := hk ⟨hV.1, vkv_cons (vkv_tl hV.2.1) trivial, mzero_rng hV.2.2.1 _, hV.2.2.2⟩ H1 locs ls hw1 (va_S_push hs (by omega) g3) hl
        rw [e1, e2] at K
        have K : W p l e R s m args below meth c H1 locs (cells + 1) (slots + n.toNat) Q (F0 m (prg M (i + 1)).1 ls (.ref (gad G ly.1) :: S'.map (grv G))) := K
        rw [xnx_eq h2, show gad G ly.1 = H.size by rw [gad_hi G hw.2.2.1, hw.2.1]] at K
        exact K
      cases ha : (a == 1) with
      | true =>
        rw [ha] at h3
        have h3 := of_decide_eq_true h3
        subst h3
        exact key .boolean _ true rfl ha (hts _ (tbAt_mem (k := 4225) (by decide +kernel))) (hE.1.2 1 _ rfl).2 rfl (by decide) rfl
      | false =>
        rw [ha] at h3
        have h3 := of_decide_eq_true h3
        subst h3
        exact key .int _ false rfl ha (hts _ (tbAt_mem (k := 1036) (by decide +kernel))) (hE.1.2 0 _ rfl).2 rfl (by decide) rfl
  · exact hk.elim
theorem al_anewarray (k : Nat) (hp : prg M i = (pc, .anewarray k, a, b, k0, sw)) (hok : okI M i pc (.anewarray k) a b k0 sw = true) (F : gCF G p s m args meth c M) (hV : gV M L S σ) (hk : gAC p l e R s m args below meth c Q G cells slots ly (mallocI ly d M i L S σ (.anewarray k) a b k0)) : gWS p l e R s m args below meth c Q G cells slots ly M i L S σ := by
  obtain ⟨hx, hb, hml, hown, hts, hrt, hlk, hnm, hE⟩ := F
  simp only [okI, Bool.and_eq_true] at hok
  obtain ⟨⟨h1, h2⟩, h3⟩ := hok
  have hpc : (prg M i).1 = pc := by rw [hp]
  simp only [mallocI] at hk
  split at hk
  · rename_i n S'
    cases hc : (decide (0 ≤ n) && decide (n ≤ 65536)) with
    | false => rw [hc] at hk; exact hk.elim
    | true =>
      rw [hc] at hk
      have hn0 := of_decide_eq_true (bb hc).1
      have hn1 := of_decide_eq_true (bb hc).2
      obtain ⟨hcl, hsl, hk⟩ := hk
      have e1 : ly.1 + 1 - ly.1 = 1 := by omega
      have e2 : ly.2.1 + n.toNat - ly.2.1 = n.toNat := by omega
      rw [e1] at hcl
      rw [e2] at hsl
      have hvn : vI n := vkv_hd hV.2.1
      have hcn := i32_cl hvn
      have hneg : ¬ Int32.ofInt n < 0 := by rw [show (0 : Int32) = Int32.ofInt 0 from rfl, i32_lt hvn vI_0]; omega
      intro H locs ls hw hs hl
      rw [hpc]
      refine W.anew hx hb hown (hts _ (tbAt_mem h3)) (va_AO.use hE.2.2.1) rfl (xdec_eq h1) rfl hneg (by rw [hcn]; omega) hcl (by rw [hcn]; exact hsl) (fun cA kA comp f1 f2 f3 f4 => ?_)
      rw [hcn]
      obtain ⟨kA', comp', -, -, -, f5⟩ := (hE.1.2 2 _ rfl).2
      have hcA : cA = G.2.1.2.2.1 := Option.some.inj (f1.symm.trans f5)
      subst hcA
      generalize hH1 : H.push ({ cls := G.2.1.2.2.1, slots := Array.replicate n.toNat .null, vm := .none } : Cell) = H1
      have z1 : H1.size = H.size + 1 := by rw [← hH1, Array.size_push]
      have g1 : H1[H.size]? = some (arrV G.2.1.2.2.1 n.toNat (fun _ => .null)) := by rw [← hH1, Array.getElem?_push_size, ← arrV_new]
      have g3 : ∀ q : Nat, q < H.size → H1[q]? = H[q]? := fun q hq => by rw [← hH1, Array.getElem?_push, if_neg (Nat.ne_of_lt hq)]
      have hcell : gcell G (mlay ly.2.2 ly.1 (.inr (.inl (0, List.replicate n.toNat none)))) (mzero σ ly.1) ly.1 = .inl (G.2.1.2.2.1, n.toNat, .inr (.inr (.inr (.inr (fun _ => none))))) := by
        unfold gcell
        rw [show mlay ly.2.2 ly.1 (.inr (.inl (0, List.replicate n.toNat none))) ly.1 = .inr (.inl (0, List.replicate n.toNat none)) from if_pos rfl]
        simp only [List.length_replicate, if_pos]
        congr 7
        funext j
        rw [List.getD_eq_getElem?_getD, List.getElem?_replicate]
        split <;> rfl
      have hw1 : gWD G (ly.1 + 1, ly.2.1 + n.toNat, mlay ly.2.2 ly.1 (.inr (.inl (0, List.replicate n.toNat none)))) (mzero σ ly.1) H1 := by
        refine gWD_push hw z1 g3 ?_ gcell_new (fun j hj => ⟨if_neg (by have := hw.2.2.1; omega), fun z => if_neg (by have := hw.2.2.1; omega)⟩)
        rw [hcell]
        show H1[H.size]? = some (vp_cell _ _)
        rw [g1]
        rfl
      have K := hk ⟨hV.1, vkv_cons (vkv_tl hV.2.1) trivial, mzero_rng hV.2.2.1 _, hV.2.2.2⟩ H1 locs ls hw1 (va_S_push hs (by omega) g3) hl
      rw [e1, e2] at K
      have K : W p l e R s m args below meth c H1 locs (cells + 1) (slots + n.toNat) Q (F0 m (prg M (i + 1)).1 ls (.ref (gad G ly.1) :: S'.map (grv G))) := K
      rw [xnx_eq h2, show gad G ly.1 = H.size by rw [gad_hi G hw.2.2.1, hw.2.1]] at K
      exact K
  · exact hk.elim
theorem al_new (k : Nat) (hp : prg M i = (pc, .new k, a, b, k0, sw)) (hok : okI M i pc (.new k) a b k0 sw = true) (F : gCF G p s m args meth c M) (hV : gV M L S σ) (hk : gAC p l e R s m args below meth c Q G cells slots ly (mallocI ly d M i L S σ (.new k) a b k0)) : gWS p l e R s m args below meth c Q G cells slots ly M i L S σ := by
  obtain ⟨hx, hb, hml, hown, hts, hrt, hlk, hnm, hE⟩ := F
  simp only [okI, Bool.and_eq_true] at hok
  obtain ⟨⟨h1, h2⟩, h3⟩ := hok
  have hpc : (prg M i).1 = pc := by rw [hp]
  split at h3
  · rename_i C T N hC
    have hlen := of_decide_eq_true (bb h3).2
    have hini := tbAt_mem (bb (bb h3).1).2
    have hins := tbAt_mem (bb (bb (bb h3).1).1).2
    have hcln := tbAt_mem (bb (bb (bb h3).1).1).1
    have hq := qok a C T N hC
    obtain ⟨hcl, hsl, hk⟩ := hk
    have e1 : ly.1 + 1 - ly.1 = 1 := by omega
    have e2 : ly.2.1 + (mdef a).length - ly.2.1 = N := by omega
    simp only [e1] at hcl
    simp only [e2] at hsl
    intro H locs ls hw hs hl
    rw [hpc]
    have hKn := hE.1.1 a _ hC
    refine W.newcK hx hb hown (hts _ hcln) (hts _ hins) (hts _ hini) rfl (xdec_eq h1) hcl hsl hKn.2.1 rfl (fun H1 kC hkC g1 z1 g3 => ?_)
    have hcell : gcell G (mlay ly.2.2 ly.1 (.inr (.inr (a, mdef a)))) (mzero σ ly.1) ly.1 = .inr (a, (mdef a).mapIdx (fun j o => gfv G (mzero σ ly.1) ly.1 j o)) := by
      unfold gcell
      rw [show mlay ly.2.2 ly.1 (.inr (.inr (a, mdef a))) ly.1 = .inr (.inr (a, mdef a)) from if_pos rfl]
    have hw1 : gWD G (ly.1 + 1, ly.2.1 + (mdef a).length, mlay ly.2.2 ly.1 (.inr (.inr (a, mdef a)))) (mzero σ ly.1) H1 := by
      refine gWD_push hw z1 g3 ?_ gcell_new (fun j hj => ⟨if_neg (by have := hw.2.2.1; omega), fun z => if_neg (by have := hw.2.2.1; omega)⟩)
      rw [hcell]
      refine ⟨_, hC, (u_born (qyy a) hts hq.1 hKn hkC g1 hq.2.1).to (fun j hj => ?_)⟩
      unfold vp_V
      rw [List.getD_eq_getElem?_getD, List.getElem?_mapIdx]
      rcases qdef a C T N hC j hj with ⟨q1, q2⟩ | ⟨q1, q2⟩
      · rw [q1, q2]
        simp [gfv, mzero]
      · rw [q1, q2]
        rfl
    have K := hk ⟨hV.1, vkv_cons hV.2.1 trivial, mzero_rng hV.2.2.1 _, hV.2.2.2⟩ H1 locs ls hw1 (va_S_push hs (by omega) g3) hl
    simp only [e1, e2] at K
    have K : W p l e R s m args below meth c H1 locs (cells + 1) (slots + N) Q (F0 m (prg M (i + 1)).1 ls (.ref (gad G ly.1) :: S.map (grv G))) := K
    rw [xnx_eq h2, show gad G ly.1 = H.size by rw [gad_hi G hw.2.2.1, hw.2.1]] at K
    exact K
  · cases h3
theorem mapIdx_setr {fs : List (Option (Option Nat))} {o k r : Nat} {y : Option Nat} (hz : fs[k]? = some (some y)) : (fs.mapIdx (fun j x => gfv G σ o j x)).set k (.ref (gad G r)) = (fs.set k (some (some r))).mapIdx (fun j x => gfv G σ o j x) := by
  apply List.ext_getElem?
  intro j
  by_cases hj : j = k
  · subst hj
    have hl : j < fs.length := (List.getElem?_eq_some_iff.mp hz).1
    rw [List.getElem?_set_self (by rw [List.length_mapIdx]; exact hl), List.getElem?_mapIdx, List.getElem?_set_self hl]
    rfl
  · rw [List.getElem?_set_ne (Ne.symm hj), List.getElem?_mapIdx, List.getElem?_mapIdx, List.getElem?_set_ne (Ne.symm hj)]
theorem al_putfield (k : Nat) (hp : prg M i = (pc, .putfield k, a, b, k0, sw)) (hok : okI M i pc (.putfield k) a b k0 sw = true) (hin : minit M = true ↔ (mnm M).name = "<init>") (F : gCF G p s m args meth c M) (hV : gV M L S σ) (hk : gAC p l e R s m args below meth c Q G cells slots ly (mallocI ly d M i L S σ (.putfield k) a b k0)) : gWS p l e R s m args below meth c Q G cells slots ly M i L S σ := by
  obtain ⟨hx, hb, hml, hown, hts, hrt, hlk, hnm, hE⟩ := F
  simp only [okI, Bool.and_eq_true] at hok
  obtain ⟨⟨⟨⟨⟨h1, h2⟩, h3⟩, h5⟩, -⟩, h6⟩ := hok
  have hpc : (prg M i).1 = pc := by rw [hp]
  have h6 := of_decide_eq_true h6
  unfold xfield at h3
  split at h3
  · rename_i C T N hC
    obtain ⟨⟨h3a, h3b⟩, h3c⟩ := (fun h => ⟨bb (bb h).1, (bb h).2⟩ : _ → (_ ∧ _) ∧ _) h3
    have ha := blt_lt h3a
    have hd := of_decide_eq_true h3b
    have hq := qok b C T N hC
    rw [hC] at h5
    have hfin : (T a).2.2.2 = false ∨ (meth.name = "<init>" ∧ (T a).1 = (mnm M).cls) := by
      rcases Bool.or_eq_true_iff.mp h5 with h | h
      · exact Or.inl (by simpa using h)
      · exact Or.inr ⟨hnm (bb h).1, of_decide_eq_true (bb h).2⟩
    simp only [mallocI] at hk
    split at hk
    · rename_i r o S'
      cases hc : (decide (k0 = 1) && Nat.ble 4 o && Nat.blt o ly.1 && Nat.blt r ly.1) with
      | false => rw [hc] at hk; exact hk.elim
      | true =>
        rw [hc] at hk
        simp only [cond_true] at hk
        have hty := h6 (of_decide_eq_true (bb (bb (bb hc).1).1).1)
        have h4 := ble_le (bb (bb (bb hc).1).1).2
        have hlt := blt_lt (bb (bb hc).1).2
        split at hk
        · rename_i c' fs hlay
          cases hcb : (c' == b) with
          | false => rw [hcb] at hk; exact hk.elim
          | true =>
            rw [hcb] at hk
            simp only [cond_true] at hk
            have hcb' : c' = b := eq_of_beq hcb
            subst hcb'
            have hcell : gcell G ly.2.2 σ o = .inr (c', fs.mapIdx (fun j z => gfv G σ o j z)) := by unfold gcell; rw [hlay]
            split at hk
            · rename_i y hz
              obtain ⟨hcl, hsl, hk⟩ := hk
              intro H locs ls hw hs hl
              rw [hpc]
              have hat := gws_Pat G hw.1 h4 hlt
              rw [hcell] at hat
              have hnar : narrow (qyy c' a) (.ref (gad G r)) = .ref (gad G r) ∧ fits (qyy c' a) (.ref (gad G r)) = true := by
                revert hty
                cases qyy c' a <;> first | (intro q; cases q; done) | (intro _; exact ⟨rfl, rfl⟩)
              refine g_put hx hb hts hq hown hE hat hC a ha (hts _ (tbAt_mem h3c)) hd hfin (v := .ref (gad G r)) hnar.1 hnar.2 (by rw [List.length_mapIdx]; exact (List.getElem?_eq_some_iff.mp hz).1) (xdec_eq h1) (fun H1 j e1 e2 e3 => ?_)
              rw [mapIdx_setr hz] at e1
              have hw1 : gWD G (ly.1, ly.2.1, mlay ly.2.2 o (.inr (.inr (c', fs.set a (some (some r)))))) σ H1 := by
                refine gWD_upd hw h4 e2 e3 ?_ gcell_lay (fun j hj => ⟨if_neg (by omega), fun _ => rfl⟩)
                have : gcell G (mlay ly.2.2 o (.inr (.inr (c', fs.set a (some (some r)))))) σ o = .inr (c', (fs.set a (some (some r))).mapIdx (fun j z => gfv G σ o j z)) := by
                  unfold gcell
                  rw [show mlay ly.2.2 o (.inr (.inr (c', fs.set a (some (some r))))) o = .inr (.inr (c', fs.set a (some (some r)))) from if_pos rfl]
                rw [this]
                exact e1
              have K := hk ⟨hV.1, vkv_tl (vkv_tl hV.2.1), hV.2.2.1, hV.2.2.2⟩ H1 _ ls hw1 (hs.put (k := j) e2 e3 (by show G.2.2.2.1 ≤ gad G o; rw [gad_hi G h4]; omega)) hl
              simp only [Nat.sub_self, Nat.add_zero] at K
              rw [xnx_eq h2] at K
              exact K
            · exact hk.elim
        · exact hk.elim
    · exact hk.elim
  · cases h3
theorem al_aastore (hp : prg M i = (pc, .aastore, a, b, k0, sw)) (hok : okI M i pc .aastore a b k0 sw = true) (F : gCF G p s m args meth c M) (hV : gV M L S σ) (hk : gAC p l e R s m args below meth c Q G cells slots ly (mallocI ly d M i L S σ .aastore a b k0)) : gWS p l e R s m args below meth c Q G cells slots ly M i L S σ := by
  obtain ⟨hx, hb, hml, hown, hts, hrt, hlk, hnm, hE⟩ := F
  simp only [okI, Bool.and_eq_true] at hok
  obtain ⟨h1, h2⟩ := hok
  have hpc : (prg M i).1 = pc := by rw [hp]
  simp only [mallocI] at hk
  split at hk
  · rename_i q z r S'
    cases hc : (Nat.ble 4 r && Nat.blt r ly.1 && decide (0 ≤ z) && misObj ly 2 (mR q)) with
    | false => rw [hc] at hk; exact hk.elim
    | true =>
      rw [hc] at hk
      simp only [cond_true] at hk
      have h4 := ble_le (bb (bb (bb hc).1).1).1
      have hlt := blt_lt (bb (bb (bb hc).1).1).2
      have hz0 := of_decide_eq_true (bb (bb hc).1).2
      have hob := (bb hc).2
      split at hk
      · rename_i rs hlay
        cases hlen : Nat.blt z.toNat rs.length with
        | false => rw [hlen] at hk; exact hk.elim
        | true =>
          rw [hlen] at hk
          have hlen := blt_lt hlen
          obtain ⟨hcl, hsl, hk⟩ := hk
          have hvz : vI z := vkv_hd (vkv_tl hV.2.1)
          unfold misObj at hob
          simp only at hob
          split at hob
          · rename_i cq fq hlq
            have hcq : cq = 2 := eq_of_beq (bb (bb hob).1).1
            subst hcq
            have hq4 := ble_le (bb (bb hob).1).2
            have hqlt := blt_lt (bb hob).2
            intro H locs ls hw hs hl
            rw [hpc]
            have hatq := gws_Pat G hw.1 hq4 hqlt
            rw [show gcell G ly.2.2 σ q = .inr (2, fq.mapIdx (fun j z => gfv G σ q j z)) by unfold gcell; rw [hlq]] at hatq
            obtain ⟨r', hr', cellV, v1, v2, v3, -⟩ := hatq
            have hr2 : r' = ("GridQuarrels$County", qT2, 15) := Option.some.inj (hr'.symm.trans rfl)
            subst hr2
            have hcls := (hE.1.1 2 _ rfl).2
            obtain ⟨kA, comp, k1, k2, k3, -⟩ := (hE.1.2 2 _ rfl).2
            have hcomp : comp = G.1.1 2 := Option.some.inj (k3.symm.trans hcls.1)
            subst hcomp
            obtain ⟨kC, hkC, -⟩ := id hcls.2
            have hat := gws_Pat G hw.1 h4 hlt
            have hcell : ∀ rs', gcell G (mlay ly.2.2 r (.inr (.inl (0, rs')))) σ r = .inl (G.2.1.2.2.1, rs'.length, .inr (.inr (.inr (.inr (fun j => (rs'.getD j none).map (gad G)))))) := fun rs' => by
              unfold gcell
              rw [show mlay ly.2.2 r (.inr (.inl (0, rs'))) r = .inr (.inl (0, rs')) from if_pos rfl]
              rfl
            rw [show gcell G ly.2.2 σ r = .inl (G.2.1.2.2.1, rs.length, .inr (.inr (.inr (.inr (fun j => (rs.getD j none).map (gad G)))))) by unfold gcell; rw [hlay]; rfl] at hat
            have hneg : ¬ Int32.ofInt z < 0 := by rw [show (0 : Int32) = Int32.ofInt 0 from rfl, i32_lt hvz vI_0]; omega
            refine W.aast hx hb hat (fun q h => by cases h) (fun h => by cases h) k1 k2 rfl hkC ⟨hneg, by show _ < (arrV _ _ _).slots.size; rw [arrV_size, i32_cl hvz]; exact hlen⟩ v1 (fun q h => by rw [v3] at h; cases h) (by rw [v2]; exact hkC) (by rw [v2]; exact va_assign hcls) rfl rfl (xdec_eq h1) (fun H1 e1 e2 e3 => ?_)
            have hw1 : gWD G (ly.1, ly.2.1, mlay ly.2.2 r (.inr (.inl (0, rs.set z.toNat (some q))))) σ H1 := by
              refine gWD_upd hw h4 e2 e3 ?_ gcell_lay (fun j hj => ⟨if_neg (by omega), fun _ => rfl⟩)
              rw [hcell]
              show H1[gad G r]? = some (vp_cell _ _)
              rw [e1, vp_cell_q, vp_cell_q, arrV_store, i32_cl hvz, List.length_set]
              congr 2
              funext j
              by_cases hj : j = z.toNat
              · subst hj
                simp [updV, va_rf, List.getD_eq_getElem?_getD, List.getElem?_set_self hlen]
              · simp only [updV, if_neg hj, List.getD_eq_getElem?_getD, List.getElem?_set_ne (Ne.symm hj)]
            have K := hk ⟨hV.1, vkv_tl (vkv_tl (vkv_tl hV.2.1)), hV.2.2.1, hV.2.2.2⟩ H1 _ ls hw1 (hs.put (k := (Int32.ofInt z).toNatClampNeg) e2 e3 (by show G.2.2.2.1 ≤ gad G r; rw [gad_hi G h4]; omega)) hl
            simp only [Nat.sub_self, Nat.add_zero] at K
            rw [xnx_eq h2] at K
            exact K
          · cases hob
      · exact hk.elim
  · exact hk.elim
theorem g_outer (c : ClassId) (N h0 : Nat) : ∀ i : Nat, Jvm.Free.Multi.outerC c N h0 i = arrV c N (fun j => va_rf (if j < i then some (h0 + 1 + j) else none))
  | 0 => by
    show ({ cls := c, slots := Array.replicate N .null, vm := .none } : Cell) = _
    rw [arrV_new]
    refine congrArg (arrV c N) (funext fun j => ?_)
    simp [va_rf]
  | i + 1 => by
    show (Jvm.Free.Multi.outerC c N h0 i).setSlot i (.ref (h0 + 1 + i)) = _
    rw [g_outer c N h0 i, arrV_store]
    refine congrArg (arrV c N) (funext fun j => ?_)
    by_cases e : j = i
    · subst e
      simp [updV, va_rf]
    · by_cases h : j < i
      · simp [updV, e, h, Nat.lt_succ_of_lt h]
      · simp [updV, e, h, show ¬ j < i + 1 by omega]
theorem al_multi (k n0 : Nat) (hp : prg M i = (pc, .multianewarray k n0, a, b, k0, sw)) (hok : okI M i pc (.multianewarray k n0) a b k0 sw = true) (F : gCF G p s m args meth c M) (hV : gV M L S σ) (hk : gAC p l e R s m args below meth c Q G cells slots ly (mallocI ly d M i L S σ (.multianewarray k n0) a b k0)) : gWS p l e R s m args below meth c Q G cells slots ly M i L S σ := by
  obtain ⟨hx, hb, hml, hown, hts, hrt, hlk, hnm, hE⟩ := F
  simp only [okI, Bool.and_eq_true] at hok
  obtain ⟨⟨⟨h0, h1⟩, h2⟩, h3⟩ := hok
  have h0 := of_decide_eq_true h0
  subst h0
  have hpc : (prg M i).1 = pc := by rw [hp]
  simp only [mallocI] at hk
  split at hk
  · rename_i kk n S'
    cases hc : (decide (0 ≤ n) && decide (n ≤ 1000) && decide (0 ≤ kk) && decide (kk ≤ 1000)) with
    | false => rw [hc] at hk; exact hk.elim
    | true =>
      rw [hc] at hk
      have hn0 := of_decide_eq_true (bb (bb (bb hc).1).1).1
      have hn1 := of_decide_eq_true (bb (bb (bb hc).1).1).2
      have hk0 := of_decide_eq_true (bb (bb hc).1).2
      have hk1 := of_decide_eq_true (bb hc).2
      obtain ⟨hcl, hsl, hk⟩ := hk
      have e1 : ly.1 + 1 + n.toNat - ly.1 = 1 + n.toNat := by omega
      have e2 : ly.2.1 + n.toNat + n.toNat * kk.toNat - ly.2.1 = n.toNat + n.toNat * kk.toNat := by omega
      simp only [e1] at hcl
      simp only [e2] at hsl
      have hvk : vI kk := vkv_hd hV.2.1
      have hvn : vI n := vkv_hd (vkv_tl hV.2.1)
      have hcn := i32_cl hvn
      have hck := i32_cl hvk
      have hnegn : ¬ Int32.ofInt n < 0 := by rw [show (0 : Int32) = Int32.ofInt 0 from rfl, i32_lt hvn vI_0]; omega
      have hnegk : ¬ Int32.ofInt kk < 0 := by rw [show (0 : Int32) = Int32.ofInt 0 from rfl, i32_lt hvk vI_0]; omega
      intro H locs ls hw hs hl
      rw [hpc]
      intro T hT Xs
      obtain ⟨vm₁, cA, comp, -, fA, fC, -, -, X', step⟩ := Xs.multianewarray2F hx hown (ty := .int) (index := k) (hts _ (tbAt_mem h3)) hE.2.2.2.1 (hts _ (tbAt_mem (k := 1036) (by decide +kernel))) (g := F0 m pc ls (.int (Int32.ofInt kk) :: .int (Int32.ofInt n) :: S'.map (grv G))) rfl (by rw [hb]; exact xdec_eq h1) rfl hnegn hnegk (by rw [hcn]; omega) (by rw [hck]; show kk.toNat * 4 ≤ _; omega) (by rw [hck]; omega) rfl rfl (by rw [hcn]; exact hcl) (by rw [hcn, hck]; exact hsl)
      rw [hcn, hck] at X' step
      have ec : comp = G.2.1.1 := Option.some.inj (fC.symm.trans (hE.1.2 0 _ rfl).2)
      subst ec
      have eA : cA = G.2.1.2.2.2 := Option.some.inj (fA.symm.trans (hE.1.2 3 _ rfl).2)
      subst eA
      generalize hF : Jvm.Free.Multi.fill (T.setVm vm₁) G.2.1.2.2.2 G.2.1.1 n.toNat kk.toNat (defaultValue .int) n.toNat = F at X' step
      have hTh : (T.setVm vm₁).heap = H := hT
      obtain ⟨f1, f2, -, -⟩ := Jvm.Free.Multi.fill_facts (T.setVm vm₁) G.2.1.2.2.2 G.2.1.1 n.toNat kk.toNat (defaultValue .int) n.toNat
      rw [hF, hTh] at f1 f2
      have hold : ∀ x : Nat, x < H.size → F.heap[x]? = H[x]? := fun x hx => by
        have := Jvm.Free.Multi.fill_old (T.setVm vm₁) G.2.1.2.2.2 G.2.1.1 n.toNat kk.toNat (defaultValue .int) (a := x) (by rw [hTh]; exact hx) n.toNat
        rw [hF, hTh] at this
        exact this
      have hz : ∀ c : ClassId, Jvm.Free.Multi.innerC c kk.toNat (defaultValue .int) = vp_cell c (kk.toNat, .inl (fun _ => 0)) := fun c => by
        show ({ cls := c, slots := Array.replicate kk.toNat (.int 0), vm := .none } : Cell) = arrV c kk.toNat (fun _ => .int 0)
        exact arrV_new c kk.toNat (.int 0)
      have hrow : ∀ j : Nat, j < n.toNat → F.heap[H.size + 1 + j]? = some (vp_cell G.2.1.1 (kk.toNat, .inl (fun _ => 0))) := fun j hj => by
        have := Jvm.Free.Multi.fill_inner (T.setVm vm₁) G.2.1.2.2.2 G.2.1.1 n.toNat kk.toNat (defaultValue .int) n.toNat j hj
        rw [hF, hTh, hz] at this
        exact this
      have hout : Jvm.Free.Multi.outerC G.2.1.2.2.2 n.toNat H.size n.toNat = vp_cell G.2.1.2.2.2 (n.toNat, .inr (.inr (.inr (.inr (fun i => if i < n.toNat then some (H.size + 1 + i) else none))))) := by
        rw [vp_cell_q]
        exact g_outer G.2.1.2.2.2 n.toNat H.size n.toNat
      rw [hout] at f2
      obtain ⟨hP, hsz, h4, hro⟩ := id hw
      have hw1 : gWD G (ly.1 + 1 + n.toNat, ly.2.1 + n.toNat + n.toNat * kk.toNat, (fun a => if a = ly.1 then .inr (.inl (1, (List.range n.toNat).map (fun i => some (ly.1 + 1 + i)))) else if ly.1 < a ∧ a < ly.1 + 1 + n.toNat then .inl (false, kk.toNat) else ly.2.2 a)) (fun a j => if ly.1 ≤ a ∧ a < ly.1 + 1 + n.toNat then 0 else σ a j) F.heap := by
        refine ⟨gws_P G (fun j hj hl => ?_), by rw [f1, hsz]; show _ = _ + (ly.1 + 1 + n.toNat - 4); omega, by show 4 ≤ ly.1 + 1 + n.toNat; omega, fun j hj => ⟨by dsimp only; rw [if_neg (by omega), if_neg (by omega)]; exact (hro j hj).1, fun z => by dsimp only; rw [if_neg (by omega)]; exact (hro j hj).2 z⟩⟩
        have hl : j < ly.1 + 1 + n.toNat := hl
        dsimp only
        by_cases g1 : j = ly.1
        · subst g1
          unfold gcell
          dsimp only
          rw [if_pos rfl, show gad G ly.1 = H.size by rw [gad_hi G h4, hsz]]
          show F.heap[H.size]? = some (vp_cell _ _)
          rw [f2]
          simp only [List.length_map, List.length_range]
          rw [vp_cell_q, vp_cell_q]
          congr 2
          funext z
          congr 1
          by_cases hzn : z < n.toNat
          · rw [if_pos hzn, List.getD_eq_getElem?_getD, List.getElem?_map, List.getElem?_range hzn]
            simp only [Option.map_some, Option.getD_some]
            rw [gad_hi G (by omega), hsz]
            congr 1
            omega
          · rw [if_neg hzn, List.getD_eq_getElem?_getD, List.getElem?_eq_none (by simp; omega)]
            rfl
        · by_cases g2 : ly.1 < j
          · unfold gcell
            dsimp only
            rw [if_neg g1, if_pos ⟨g2, hl⟩]
            show F.heap[gad G j]? = some (vp_cell _ _)
            have := hrow (j - ly.1 - 1) (by omega)
            rw [gad_hi G hj, show G.2.2.2.1 + (j - 4) = H.size + 1 + (j - ly.1 - 1) by omega, this]
            simp only [cond_false]
            congr 4
            funext z
            rw [if_pos ⟨by omega, hl⟩]
            rfl
          · have h9 := gws_Pat G hP hj (show j < ly.1 by omega)
            have ec : gcell G (fun a => if a = ly.1 then .inr (.inl (1, (List.range n.toNat).map (fun i => some (ly.1 + 1 + i)))) else if ly.1 < a ∧ a < ly.1 + 1 + n.toNat then .inl (false, kk.toNat) else ly.2.2 a) (fun a j => if ly.1 ≤ a ∧ a < ly.1 + 1 + n.toNat then 0 else σ a j) j = gcell G ly.2.2 σ j := by
              unfold gcell
              have q0 : ¬ (ly.1 ≤ j ∧ j < ly.1 + 1 + n.toNat) := by omega
              have q1 : ¬ (ly.1 < j ∧ j < ly.1 + 1 + n.toNat) := by omega
              simp only [if_neg g1, if_neg q1]
              have q2 : ∀ z o, gfv G (fun a j => if ly.1 ≤ a ∧ a < ly.1 + 1 + n.toNat then 0 else σ a j) j z o = gfv G σ j z o := fun z o => by cases o <;> simp only [gfv, if_neg q0]
              simp only [if_neg q0, q2]
            rw [ec]
            refine h9.kept (hold _ ?_)
            show gad G j < H.size
            rw [gad_hi G hj, hsz]
            omega
      have K := hk ⟨hV.1, vkv_cons (vkv_tl (vkv_tl hV.2.1)) trivial, (fun x j => by show vI (if _ then _ else _); split; exact vI_0; exact hV.2.2.1 x j), hV.2.2.2⟩ F.heap locs ls hw1 (va_S_push hs (by rw [f1]; omega) hold) hl
      simp only [e1, e2] at K
      have K : W p l e R s m args below meth c F.heap locs (cells + (1 + n.toNat)) (slots + (n.toNat + n.toNat * kk.toNat)) Q (F0 m (prg M (i + 1)).1 ls (.ref (gad G ly.1) :: S'.map (grv G))) := K
      rw [xnx_eq h2, show gad G ly.1 = H.size by rw [gad_hi G h4, hsz], ← Nat.add_assoc, ← Nat.add_assoc] at K
      obtain ⟨t, a1, b1⟩ := K F rfl X'
      refine ⟨t, step t ?_, b1⟩
      have e9 : T.heap.size = H.size := by rw [hT]
      rw [e9]
      exact a1
  · exact hk.elim
/-- a making, or the writing of a reference -/
theorem st_alloc (hok : okE M i = true) (F : gCF G p s m args meth c M) (hin : minit M = true ↔ (mnm M).name = "<init>") (hV : gV M L S σ) (hk : gAC p l e R s m args below meth c Q G cells slots ly (malloc ly (d, M, i, L, S, σ))) : gWS p l e R s m args below meth c Q G cells slots ly M i L S σ := by
  rcases hp : prg M i with ⟨pc, ins, a, b, k0, sw⟩
  have hok : okI M i pc ins a b k0 sw = true := by unfold okE at hok; rw [hp] at hok; exact hok
  have hk : gAC p l e R s m args below meth c Q G cells slots ly (mallocI ly d M i L S σ ins a b k0) := by unfold malloc at hk; simp only [hp] at hk; exact hk
  cases ins with
  | newarray t => exact al_newarray t hp hok F hV hk
  | anewarray k => exact al_anewarray k hp hok F hV hk
  | multianewarray k n => exact al_multi k n hp hok F hV hk
  | new k => exact al_new k hp hok F hV hk
  | putfield k => exact al_putfield k hp hok hin F hV hk
  | aastore => exact al_aastore hp hok F hV hk
  | _ => exact hk.elim
end AL
