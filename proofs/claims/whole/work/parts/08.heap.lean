theorem qin_0 : ∀ w ∈ u_ws "GridQuarrels$Acts" qT0 3, w ∈ lw_tbl := by decide +kernel
theorem qin_1 : ∀ w ∈ u_ws "GridQuarrels$Asker" qT1 2, w ∈ lw_tbl := by decide +kernel
theorem qin_2 : ∀ w ∈ u_ws "GridQuarrels$County" qT2 15, w ∈ lw_tbl := by decide +kernel
theorem qin_3 : ∀ w ∈ u_ws "GridQuarrels$Reader" qT3 6, w ∈ lw_tbl := by decide +kernel
theorem qin_4 : ∀ w ∈ u_ws "GridQuarrels$Rows" qT4 3, w ∈ lw_tbl := by decide +kernel
theorem qin_5 : ∀ w ∈ u_ws "GridQuarrels$Seer" qT5 3, w ∈ lw_tbl := by decide +kernel
theorem qin_6 : ∀ w ∈ u_ws "GridQuarrels" qT6 8, w ∈ lw_tbl := by decide +kernel
theorem qin_7 : ∀ w ∈ u_ws "GridQuarrelsModel" qT7 27, w ∈ lw_tbl := by decide +kernel
theorem u_ws_good {C : String} {T : u_T} {N : Nat} : ∀ w ∈ u_ws C T N, goodWord w = true := by
  intro w hw
  obtain ⟨k, -, rfl⟩ := List.mem_map.mp hw
  unfold u_lay
  split <;> rfl
/-- a class of the heap: its words, its types, its names -/
def qOK (b : Nat) (C : String) (T : u_T) (N : Nat) : Prop := (∀ w ∈ u_ws C T N, w ∈ tb) ∧ (∀ k, k < N → parseFieldDescriptor (T k).2.2.1 = some (qyy b k)) ∧ ∀ x, x < N → ∀ y, y < N → x ≠ y → (T x).2.1 ≠ (T y).2.1
theorem qok : ∀ (b : Nat) (C : String) (T : u_T) (N : Nat), qC[b]? = some (C, T, N) → qOK b C T N
  | 0, _, _, _, h => by cases h; exact ⟨fun w hw => tb_mem (qin_0 w hw) (u_ws_good w hw), by decide +kernel, by decide +kernel⟩
  | 1, _, _, _, h => by cases h; exact ⟨fun w hw => tb_mem (qin_1 w hw) (u_ws_good w hw), by decide +kernel, by decide +kernel⟩
  | 2, _, _, _, h => by cases h; exact ⟨fun w hw => tb_mem (qin_2 w hw) (u_ws_good w hw), by decide +kernel, by decide +kernel⟩
  | 3, _, _, _, h => by cases h; exact ⟨fun w hw => tb_mem (qin_3 w hw) (u_ws_good w hw), by decide +kernel, by decide +kernel⟩
  | 4, _, _, _, h => by cases h; exact ⟨fun w hw => tb_mem (qin_4 w hw) (u_ws_good w hw), by decide +kernel, by decide +kernel⟩
  | 5, _, _, _, h => by cases h; exact ⟨fun w hw => tb_mem (qin_5 w hw) (u_ws_good w hw), by decide +kernel, by decide +kernel⟩
  | 6, _, _, _, h => by cases h; exact ⟨fun w hw => tb_mem (qin_6 w hw) (u_ws_good w hw), by decide +kernel, by decide +kernel⟩
  | 7, _, _, _, h => by cases h; exact ⟨fun w hw => tb_mem (qin_7 w hw) (u_ws_good w hw), by decide +kernel, by decide +kernel⟩
  | b + 8, _, _, _, h => by simp [qC] at h
/-- one cell is written -/
theorem gWD_upd {G : mmG} {ly : mmL} {σ σ' : mmSt} {f' : Nat → mmC} {H H1 : Heap} (h : gWD G ly σ H) {k : Nat} (h4 : 4 ≤ k) (hz : H1.size = H.size) (oq : ∀ q : Nat, q ≠ gad G k → H1[q]? = H[q]?)
    (he : va_at G.1 qC (gad G k, gcell G f' σ' k) H1) (ho : ∀ j, j ≠ k → gcell G f' σ' j = gcell G ly.2.2 σ j) (hro : ∀ j, j < 4 → f' j = ly.2.2 j ∧ ∀ i, σ' j i = σ j i) : gWD G (ly.1, ly.2.1, f') σ' H1 := by
  obtain ⟨hP, hs, h4', hr⟩ := h
  refine ⟨gws_P G (fun j hj hl => ?_), by rw [hz]; exact hs, h4', fun j hj => ⟨(hro j hj).1.trans (hr j hj).1, fun i => ((hro j hj).2 i).trans ((hr j hj).2 i)⟩⟩
  by_cases e : j = k
  · subst e; exact he
  · have h1 := gws_Pat G hP hj hl
    show va_at G.1 qC (gad G j, gcell G f' σ' j) H1
    rw [ho j e]
    refine h1.kept (oq _ ?_)
    show gad G j ≠ gad G k
    rw [gad_hi G hj, gad_hi G h4]
    omega
theorem gcell_up {G : mmG} {f : Nat → mmC} {σ : mmSt} {k i : Nat} {v : Int} : ∀ j, j ≠ k → gcell G f (mup σ k i v) j = gcell G f σ j := by
  intro j hj
  unfold gcell
  have e : ∀ n, mup σ k i v j n = σ j n := fun n => if_neg (fun q => hj q.1)
  have e2 : ∀ n o, gfv G (mup σ k i v) j n o = gfv G σ j n o := fun n o => by cases o <;> simp only [gfv, e]
  simp only [e, e2]
section HP
variable {p : Program} {l : Launch} {e : Env} {R : Room} {s : State} {m : MethodId} {args : Array Value} {below : List Frame} {meth : Method} {c : Code} {Q : State → Prop} {G : mmG} {cells slots : Nat} {ly : mmL}
variable {d M i pc a b : Nat} {L S : List mmV} {σ : mmSt} {k0 : Int} {sw : List (Int × Nat)}
theorem bb {x y : Bool} (h : (x && y) = true) : x = true ∧ y = true := Bool.and_eq_true_iff.mp h
theorem ble_le {x y : Nat} (h : Nat.ble x y = true) : x ≤ y := Nat.le_of_ble_eq_true h
theorem blt_lt {x y : Nat} (h : Nat.blt x y = true) : x < y := Nat.blt_eq.mp h
theorem st_getfield (k : Nat) (hp : prg M i = (pc, .getfield k, a, b, k0, sw)) (hok : okI M i pc (.getfield k) a b k0 sw = true) (F : gCF G p s m args meth c M) (hV : gV M L S σ) (hk : gSC p l e R s m args below meth c Q G cells slots ly (mstepI ly d M i L S σ (.getfield k) a b k0 sw)) : gWS p l e R s m args below meth c Q G cells slots ly M i L S σ := by
  obtain ⟨hx, hb, hml, hown, hts, hrt, hlk, hnm, hE⟩ := F
  simp only [okI, Bool.and_eq_true] at hok
  obtain ⟨⟨h1, h2⟩, h3⟩ := hok
  have hpc : (prg M i).1 = pc := by rw [hp]
  unfold xfield at h3
  split at h3
  · rename_i C T N hC
    obtain ⟨⟨h3a, h3b⟩, h3c⟩ := (fun h => ⟨bb (bb h).1, (bb h).2⟩ : _ → (_ ∧ _) ∧ _) h3
    have ha := blt_lt h3a
    have hd := of_decide_eq_true h3b
    have hq := qok b C T N hC
    simp only [mstepI, mgetf] at hk
    split at hk
    · rename_i o S'
      cases hc : (Nat.ble 4 o && Nat.blt o ly.1) with
      | false => rw [hc] at hk; exact hk.elim
      | true =>
        rw [hc] at hk
        simp only [cond_true] at hk
        have h4 := ble_le (bb hc).1
        have hlt := blt_lt (bb hc).2
        split at hk
        · rename_i c' fs hlay
          cases hcb : (c' == b) with
          | false => rw [hcb] at hk; exact hk.elim
          | true =>
            rw [hcb] at hk
            simp only [cond_true] at hk
            have hcb' : c' = b := eq_of_beq hcb
            subst hcb'
            have hcell : gcell G ly.2.2 σ o = .inr (c', fs.mapIdx (fun j z => gfv G σ o j z)) := by unfold gcell; rw [hlay]
            have key : ∀ (z : Option (Option Nat)) (v : mmV), fs[a]? = some z → gfv G σ o a z = grv G v → vkv v → gWX p l e R s m args below meth c Q G cells slots ly (d, M, i + 1, L, v :: S', σ) → gWS p l e R s m args below meth c Q G cells slots ly M i L (.inr (.inr (.inl o)) :: S') σ := by
              intro z v hz hv hvk hkk H locs ls hw hs hl
              rw [hpc]
              refine va_get (D := G.1) (ws := gws G ly.1 ly.2.2 σ) (v := grv G v) (C := C) (T := T) (N := N) (ref := C) hx hb hts hq.1 hown hE.1 hw.1 (o - 4) (by rw [gws_at G ly.2.2 σ h4 hlt, hcell]) hC a ha (hts _ (tbAt_mem h3c)) (fun x hx => by rw [hd] at hx; exact hx) (by rw [List.getElem?_mapIdx, hz]; exact congrArg some hv) (xdec_eq h1) ?_
              have K := hkk ⟨hV.1, vkv_cons (vkv_tl hV.2.1) hvk, hV.2.2.1, hV.2.2.2⟩ H locs ls hw hs hl
              rw [xnx_eq h2] at K
              exact K
            split at hk
            · rename_i hz
              exact key none (mI (σ o a)) hz rfl (hV.2.2.1 o a) hk
            · rename_i r hz
              exact key (some (some r)) (mR r) hz rfl trivial hk
            · exact hk.elim
        · exact hk.elim
    · exact hk.elim
  · cases h3
/-- a field is written, whatever its kind; the heap's size stays -/
theorem g_put {C : String} {T : u_T} {N ci index : Nat} (hexec : p.tables.exec = Jvm.exec) {cc : ByteArray} (hb : c.code = cc) {own : String} (hts : ∀ w ∈ tb, w.before args s = true) (hq : qOK ci C T N) (hown : s.vm.findClass own = some m.cls) (hE : gEF G s) {H : Heap} {locs : List Loc} {o : Nat} {fs : List Value} (he : va_at G.1 qC (o, .inr (ci, fs)) H) (hc : qC[ci]? = some (C, T, N)) (k : Nat) (hk : k < N) (hlink : (Cond.fieldLink own index C (T k).2.1 (T k).2.2.1).before args s = true) (hsame : (T k).1 = C) (hfin : (T k).2.2.2 = false ∨ (meth.name = "<init>" ∧ (T k).1 = own)) {v : Value} (hn : narrow (qyy ci k) v = v) (hfit : fits (qyy ci k) v = true) (hl : k < fs.length) {pc : Nat} {ls : Array Slot} {rest : List Value}
    (hdg : decode cc pc = .ok (.putfield index, 3)) (kk : ∀ (H1 : Heap) (j : Nat), va_at G.1 qC (o, .inr (ci, fs.set k v)) H1 → H1.size = H.size → (∀ q : Nat, q ≠ o → H1[q]? = H[q]?) → W p l e R s m args below meth c H1 (locs ++ [⟨o, j⟩]) cells slots Q (F0 m (pc + 3) ls rest)) : W p l e R s m args below meth c H locs cells slots Q (F0 m pc ls (v :: .ref o :: rest)) := by
  have hK := hE.1
  have hap := va_apart (own := own) hts hq.1 (qyy ci) hq.2.1 hq.2.2 hK hc
  obtain ⟨r, h1, cell, q1, q2, q3, q4⟩ := he
  have hr : r = (C, T, N) := Option.some.inj (h1.symm.trans hc)
  subst hr
  obtain ⟨hS, hfc, kC, hkC, hkind⟩ := hK.1 ci _ hc
  obtain ⟨cf, kf, fi, f, hi, hsl⟩ := hS k hk
  have hlay := hts _ (hq.1 _ (u_in_lay hk))
  have hst := (u_facts hfc hkC (u_lays hts hq.1 hk) hi).1
  have hi2 : s.fieldFound? C (T k).2.1 (T k).2.2.1 = some (cf, kf, fi, f) := by rw [← hsame]; exact hi
  by_cases hf : (T k).2.2.2 = true
  · have hfin := hfin.resolve_left (by rw [hf]; decide)
    unfold u_lay at hlay
    rw [if_pos hf] at hlay
    have hcf : m.cls = cf := by
      obtain ⟨_, _, c', _, _, _, -, -, hf', -, -, -, hown2, -⟩ := Cond.laysFinal_spec hlay
      have e1 : c' = cf := by have := hi.symm.trans hf'; simp at this; exact this.1.symm
      rw [hfin.2] at hown2
      rw [← e1]; exact Option.some.inj (hown.symm.trans hown2)
    have h6 := u_fits hfc hkC hkind (Or.inr hlay) hi (hq.2.1 k hk) hn hfit
    refine W.putFinK hexec hb hown hlink hi2 hst hcf hfin.1 (by rw [q2]; exact h6) q1 q3 (by rw [hsl]; exact k2_hasslot (q4 k hk)) rfl rfl hdg fun H' e1 e2 e3 => ?_
    rw [hsl] at e1 ⊢
    exact kk H' _ ⟨_, hc, t_OB.to (V := updV (vp_V fs) k v) ⟨_, e1, q2, q3, t_set q4 hap hk v⟩ (fun j _ => vp_updV_set hl v j)⟩ e2 e3
  · unfold u_lay at hlay
    rw [if_neg hf] at hlay
    have h6 := u_store hfc hkC hkind hlay hi (hq.2.1 k hk) hn hfit
    refine W.putK hexec hb (f := f) ⟨hown, hlink, ⟨_, _, _, hi2⟩, hst⟩ (by rw [q2]; exact h6) q1 q3 (by rw [hsl]; exact k2_hasslot (q4 k hk)) rfl rfl hdg fun H' e1 e2 e3 => ?_
    rw [hsl] at e1 ⊢
    exact kk H' _ ⟨_, hc, t_OB.to (V := updV (vp_V fs) k v) ⟨_, e1, q2, q3, t_set q4 hap hk v⟩ (fun j _ => vp_updV_set hl v j)⟩ e2 e3
theorem mapIdx_set {fs : List (Option (Option Nat))} {σ : mmSt} {o k : Nat} {z : Int} (hz : fs[k]? = some none) : (fs.mapIdx (fun j x => gfv G σ o j x)).set k (.int (Int32.ofInt z)) = fs.mapIdx (fun j x => gfv G (mup σ o k z) o j x) := by
  apply List.ext_getElem?
  intro j
  by_cases hj : j = k
  · subst hj
    have hl : j < fs.length := (List.getElem?_eq_some_iff.mp hz).1
    rw [List.getElem?_set_self (by rw [List.length_mapIdx]; exact hl), List.getElem?_mapIdx, hz]
    simp [gfv, mup]
  · rw [List.getElem?_set_ne (Ne.symm hj), List.getElem?_mapIdx, List.getElem?_mapIdx]
    cases fs[j]? with
    | none => rfl
    | some x =>
      cases x with
      | none => simp [gfv, mup, hj]
      | some x => cases x <;> rfl
theorem st_putfield (k : Nat) (hp : prg M i = (pc, .putfield k, a, b, k0, sw)) (hok : okI M i pc (.putfield k) a b k0 sw = true) (hin : minit M = true ↔ (mnm M).name = "<init>") (F : gCF G p s m args meth c M) (hV : gV M L S σ) (hk : gSC p l e R s m args below meth c Q G cells slots ly (mstepI ly d M i L S σ (.putfield k) a b k0 sw)) : gWS p l e R s m args below meth c Q G cells slots ly M i L S σ := by
  obtain ⟨hx, hb, hml, hown, hts, hrt, hlk, hnm, hE⟩ := F
  simp only [okI, Bool.and_eq_true] at hok
  obtain ⟨⟨⟨⟨⟨h1, h2⟩, h3⟩, h5⟩, h6⟩, -⟩ := hok
  have hpc : (prg M i).1 = pc := by rw [hp]
  have h6 := of_decide_eq_true h6
  unfold xfield at h3
  split at h3
  · rename_i C T N hC
    obtain ⟨⟨h3a, h3b⟩, h3c⟩ := (fun h => ⟨bb (bb h).1, (bb h).2⟩ : _ → (_ ∧ _) ∧ _) h3
    have ha := blt_lt h3a
    have hd := of_decide_eq_true h3b
    have hq := qok b C T N hC
    rw [hC] at h5
    have hfin : (T a).2.2.2 = false ∨ (meth.name = "<init>" ∧ (T a).1 = (mnm M).cls) := by
      rcases Bool.or_eq_true_iff.mp h5 with h | h
      · exact Or.inl (by simpa using h)
      · exact Or.inr ⟨hnm (bb h).1, of_decide_eq_true (bb h).2⟩
    simp only [mstepI] at hk
    cases hk0 : decide (k0 = 0) with
    | false => rw [hk0] at hk; exact hk.elim
    | true =>
    rw [hk0] at hk
    have hty := h6 (of_decide_eq_true hk0)
    simp only [cond_true, mputf] at hk
    split at hk
    · rename_i z o S'
      cases hc : (Nat.ble 4 o && Nat.blt o ly.1) with
      | false => rw [hc] at hk; exact hk.elim
      | true =>
        rw [hc] at hk
        simp only [cond_true] at hk
        have h4 := ble_le (bb hc).1
        have hlt := blt_lt (bb hc).2
        split at hk
        · rename_i c' fs hlay
          cases hcb : (c' == b) with
          | false => rw [hcb] at hk; exact hk.elim
          | true =>
            rw [hcb] at hk
            simp only [cond_true] at hk
            have hcb' : c' = b := eq_of_beq hcb
            subst hcb'
            have hcell : ∀ τ, gcell G ly.2.2 τ o = .inr (c', fs.mapIdx (fun j z => gfv G τ o j z)) := fun τ => by unfold gcell; rw [hlay]
            split at hk
            · rename_i hz
              intro H locs ls hw hs hl
              rw [hpc]
              have hat := gws_Pat G hw.1 h4 hlt
              rw [hcell] at hat
              refine g_put hx hb hts hq hown hE hat hC a ha (hts _ (tbAt_mem h3c)) hd hfin (v := .int (Int32.ofInt z)) (by rw [hty]; rfl) (by rw [hty]; rfl) (by rw [List.length_mapIdx]; exact (List.getElem?_eq_some_iff.mp hz).1) (xdec_eq h1) (fun H1 j e1 e2 e3 => ?_)
              rw [mapIdx_set hz] at e1
              have hw1 : gWD G ly (mup σ o a z) H1 := gWD_upd (f' := ly.2.2) hw h4 e2 e3 (by rw [hcell]; exact e1) gcell_up (fun j hj => ⟨rfl, fun n => if_neg (fun q => by omega)⟩)
              have K := hk ⟨hV.1, vkv_tl (vkv_tl hV.2.1), vkv_mup hV.2.2.1 (vkv_hd hV.2.1), hV.2.2.2⟩ H1 _ ls hw1 (hs.put (k := j) e2 e3 (by show G.2.2.2.1 ≤ gad G o; rw [gad_hi G h4]; omega)) hl
              rw [xnx_eq h2] at K
              exact K
            · exact hk.elim
        · exact hk.elim
    · exact hk.elim
  · cases h3
end HP
