section ST
variable {p : Program} {l : Launch} {e : Env} {R : Room} {s : State} {m : MethodId} {args : Array Value} {below : List Frame} {meth : Method} {c : Code} {Q : State → Prop} {G : mmG} {cells slots : Nat} {ly : mmL}
def gCF (G : mmG) (p : Program) (s : State) (m : MethodId) (args : Array Value) (meth : Method) (c : Code) (M : Nat) : Prop := p.tables.exec = Jvm.exec ∧ c.code = mby M ∧ c.maxLocals = mmaxL M ∧ s.vm.findClass (mnm M).cls = some m.cls ∧ (∀ w ∈ tb, w.before args s = true) ∧ meth.sig.returnType = mrt M ∧ meth.locks = false ∧ (minit M = true → meth.name = "<init>") ∧ gEF G s
def vkv : mmV → Prop
  | .inl z => vI z
  | .inr (.inl z) => vLg z
  | _ => True
def gV (M : Nat) (L S : List mmV) (σ : mmSt) : Prop := (∀ v ∈ L, vkv v) ∧ (∀ v ∈ S, vkv v) ∧ (∀ a j, vI (σ a j)) ∧ L.length = mmaxL M
def gWS (p : Program) (l : Launch) (e : Env) (R : Room) (s : State) (m : MethodId) (args : Array Value) (below : List Frame) (meth : Method) (c : Code) (Q : State → Prop) (G : mmG) (cells slots : Nat) (ly : mmL) (M i : Nat) (L S : List mmV) (σ : mmSt) : Prop :=
  ∀ (H : Heap) (locs : List Loc) (ls : Array Slot), gWD G ly σ H → va_S (gA G) s.heap H locs → gLR G ls L → W p l e R s m args below meth c H locs cells slots Q (F0 m (prg M i).1 ls (S.map (grv G)))
def gWX (p : Program) (l : Launch) (e : Env) (R : Room) (s : State) (m : MethodId) (args : Array Value) (below : List Frame) (meth : Method) (c : Code) (Q : State → Prop) (G : mmG) (cells slots : Nat) (ly : mmL) (x : mmX) : Prop :=
  gV x.2.1 x.2.2.2.1 x.2.2.2.2.1 x.2.2.2.2.2 → gWS p l e R s m args below meth c Q G cells slots ly x.2.1 x.2.2.1 x.2.2.2.1 x.2.2.2.2.1 x.2.2.2.2.2
/-- what is owed behind a step -/
def gSC (p : Program) (l : Launch) (e : Env) (R : Room) (s : State) (m : MethodId) (args : Array Value) (below : List Frame) (meth : Method) (c : Code) (Q : State → Prop) (G : mmG) (cells slots : Nat) (ly : mmL) (r : mmS) : Prop := match r with
  | .inl _ => False
  | .inr (.inl _) => False
  | .inr (.inr (.inl x)) => gWX p l e R s m args below meth c Q G cells slots ly x
  | .inr (.inr (.inr (.inl (b, x, y)))) => (b = true → gWX p l e R s m args below meth c Q G cells slots ly x) ∧ (b = false → gWX p l e R s m args below meth c Q G cells slots ly y)
  | .inr (.inr (.inr (.inr (.inl (b, x))))) => b = true ∧ gWX p l e R s m args below meth c Q G cells slots ly x
  | .inr (.inr (.inr (.inr (.inr (.inl _))))) => False
  | .inr (.inr (.inr (.inr (.inr (.inr (v, l2, d)))))) => match l2.find? (fun q => decide (v = q.1)) with
    | some q => gWX p l e R s m args below meth c Q G cells slots ly q.2
    | none => gWX p l e R s m args below meth c Q G cells slots ly d
theorem blt_f {x y : Nat} (h : ¬ x < y) : Nat.blt x y = false := Bool.eq_false_iff.mpr (fun q => h (Nat.blt_eq.mp q))
theorem vkv_cons {v : mmV} {S : List mmV} (h : ∀ u ∈ S, vkv u) (hv : vkv v) : ∀ u ∈ v :: S, vkv u := fun u hu => (List.mem_cons.mp hu).elim (fun q => q ▸ hv) (h u)
theorem vkv_tl {v : mmV} {S : List mmV} (h : ∀ u ∈ v :: S, vkv u) : ∀ u ∈ S, vkv u := fun u hu => h u (List.mem_cons_of_mem _ hu)
theorem vkv_hd {v : mmV} {S : List mmV} (h : ∀ u ∈ v :: S, vkv u) : vkv v := h v List.mem_cons_self
theorem vkv_getD {L : List mmV} (h : ∀ u ∈ L, vkv u) (k : Nat) : vkv (L.getD k mJ) := by
  rw [List.getD_eq_getElem?_getD]
  cases hk : L[k]? with
  | none => trivial
  | some v => exact h v (List.mem_of_getElem? hk)
theorem vkv_set {L : List mmV} (h : ∀ u ∈ L, vkv u) {k : Nat} {v : mmV} (hv : vkv v) : ∀ u ∈ L.set k v, vkv u := fun u hu => (List.mem_or_eq_of_mem_set hu).elim (h u) (fun q => q ▸ hv)
theorem vkv_mup {σ : mmSt} (h : ∀ a j, vI (σ a j)) {a i : Nat} {v : Int} (hv : vI v) : ∀ b j, vI (mup σ a i v b j) := fun b j => by
  unfold mup; split
  · exact hv
  · exact h b j
theorem xdec_eq {M pc : Nat} {ins : Instr} {n : Nat} (h : xdec M pc ins n = true) : decode (mby M) pc = .ok (ins, n) := of_decide_eq_true h
theorem xnx_eq {M i pc n : Nat} (h : xnx M i pc n = true) : (prg M (i + 1)).1 = pc + n := by
  simp only [xnx, Bool.and_eq_true, decide_eq_true_eq] at h; exact h.1
theorem xtg_eq {M a pc : Nat} {off : Int} (h : xtg M a pc off = true) : (pc : Int) + off = ((prg M a).1 : Int) := by
  simp only [xtg, Bool.and_eq_true, decide_eq_true_eq] at h; exact h.1
theorem r32_rng {z : Int} (h : r32 z = true) : vI z := by
  simp only [r32, Bool.and_eq_true, decide_eq_true_eq] at h; exact h
theorem r64_rng {z : Int} (h : r64 z = true) : vLg z := by
  simp only [r64, Bool.and_eq_true, decide_eq_true_eq] at h; exact h
variable {d M i pc a b : Nat} {L S : List mmV} {σ : mmSt} {k0 : Int} {sw : List (Int × Nat)}

theorem st_iload_n (k : Fin 4) (hp : prg M i = (pc, .iload_n k, a, b, k0, sw)) (hok : okI M i pc (.iload_n k) a b k0 sw = true) (F : gCF G p s m args meth c M) (hV : gV M L S σ) (hk : gSC p l e R s m args below meth c Q G cells slots ly (mstepI ly d M i L S σ (.iload_n k) a b k0 sw)) : gWS p l e R s m args below meth c Q G cells slots ly M i L S σ := by
  obtain ⟨hx, hb, hml, hown, hts, hrt, hlk, hnm, hE⟩ := F
  simp only [okI, Bool.and_eq_true, decide_eq_true_eq] at hok
  obtain ⟨h1, h2⟩ := hok
  have hpc : (prg M i).1 = pc := by rw [hp]
  simp only [mstepI, mldi] at hk
  split at hk
  · rename_i z hL
    intro H locs ls hw hs hl
    rw [hpc]
    refine lv_iload_n hx hb (xdec_eq h1) rfl (gLR_int hl hL) ?_
    have K := hk ⟨hV.1, vkv_cons hV.2.1 (by have := vkv_getD hV.1 k.val; rw [hL] at this; exact this), hV.2.2.1, hV.2.2.2⟩ H locs ls hw hs hl
    rw [xnx_eq h2] at K
    exact K
  · exact hk.elim
theorem st_iload (k : Nat) (hp : prg M i = (pc, .iload k, a, b, k0, sw)) (hok : okI M i pc (.iload k) a b k0 sw = true) (F : gCF G p s m args meth c M) (hV : gV M L S σ) (hk : gSC p l e R s m args below meth c Q G cells slots ly (mstepI ly d M i L S σ (.iload k) a b k0 sw)) : gWS p l e R s m args below meth c Q G cells slots ly M i L S σ := by
  obtain ⟨hx, hb, hml, hown, hts, hrt, hlk, hnm, hE⟩ := F
  simp only [okI, Bool.and_eq_true, decide_eq_true_eq] at hok
  obtain ⟨h1, h2⟩ := hok
  have hpc : (prg M i).1 = pc := by rw [hp]
  simp only [mstepI, mldi] at hk
  split at hk
  · rename_i z hL
    intro H locs ls hw hs hl
    rw [hpc]
    refine lv_iload hx hb (xdec_eq h1) (gLR_int hl hL) ?_
    have K := hk ⟨hV.1, vkv_cons hV.2.1 (by have := vkv_getD hV.1 k; rw [hL] at this; exact this), hV.2.2.1, hV.2.2.2⟩ H locs ls hw hs hl
    rw [xnx_eq h2] at K
    exact K
  · exact hk.elim
theorem st_aload_n (k : Fin 4) (hp : prg M i = (pc, .aload_n k, a, b, k0, sw)) (hok : okI M i pc (.aload_n k) a b k0 sw = true) (F : gCF G p s m args meth c M) (hV : gV M L S σ) (hk : gSC p l e R s m args below meth c Q G cells slots ly (mstepI ly d M i L S σ (.aload_n k) a b k0 sw)) : gWS p l e R s m args below meth c Q G cells slots ly M i L S σ := by
  obtain ⟨hx, hb, hml, hown, hts, hrt, hlk, hnm, hE⟩ := F
  simp only [okI, Bool.and_eq_true, decide_eq_true_eq] at hok
  obtain ⟨h1, h2⟩ := hok
  have hpc : (prg M i).1 = pc := by rw [hp]
  simp only [mstepI, mlda] at hk
  split at hk
  · rename_i z hL
    intro H locs ls hw hs hl
    rw [hpc]
    refine lv_aload_n hx hb (xdec_eq h1) rfl (gLR_ref hl hL) ?_
    have K := hk ⟨hV.1, vkv_cons hV.2.1 (trivial), hV.2.2.1, hV.2.2.2⟩ H locs ls hw hs hl
    rw [xnx_eq h2] at K
    exact K
  · exact hk.elim
theorem st_aload (k : Nat) (hp : prg M i = (pc, .aload k, a, b, k0, sw)) (hok : okI M i pc (.aload k) a b k0 sw = true) (F : gCF G p s m args meth c M) (hV : gV M L S σ) (hk : gSC p l e R s m args below meth c Q G cells slots ly (mstepI ly d M i L S σ (.aload k) a b k0 sw)) : gWS p l e R s m args below meth c Q G cells slots ly M i L S σ := by
  obtain ⟨hx, hb, hml, hown, hts, hrt, hlk, hnm, hE⟩ := F
  simp only [okI, Bool.and_eq_true, decide_eq_true_eq] at hok
  obtain ⟨h1, h2⟩ := hok
  have hpc : (prg M i).1 = pc := by rw [hp]
  simp only [mstepI, mlda] at hk
  split at hk
  · rename_i z hL
    intro H locs ls hw hs hl
    rw [hpc]
    refine lv_aload hx hb (xdec_eq h1) (gLR_ref hl hL) ?_
    have K := hk ⟨hV.1, vkv_cons hV.2.1 (trivial), hV.2.2.1, hV.2.2.2⟩ H locs ls hw hs hl
    rw [xnx_eq h2] at K
    exact K
  · exact hk.elim
theorem st_lload_n (k : Fin 4) (hp : prg M i = (pc, .lload_n k, a, b, k0, sw)) (hok : okI M i pc (.lload_n k) a b k0 sw = true) (F : gCF G p s m args meth c M) (hV : gV M L S σ) (hk : gSC p l e R s m args below meth c Q G cells slots ly (mstepI ly d M i L S σ (.lload_n k) a b k0 sw)) : gWS p l e R s m args below meth c Q G cells slots ly M i L S σ := by
  obtain ⟨hx, hb, hml, hown, hts, hrt, hlk, hnm, hE⟩ := F
  simp only [okI, Bool.and_eq_true, decide_eq_true_eq] at hok
  obtain ⟨h1, h2⟩ := hok
  have hpc : (prg M i).1 = pc := by rw [hp]
  simp only [mstepI, mldl] at hk
  split at hk
  · rename_i z u hL hL2
    intro H locs ls hw hs hl
    rw [hpc]
    refine lv_lload_n hx hb (xdec_eq h1) rfl (gLR_long hl hL hL2) ?_
    have K := hk ⟨hV.1, vkv_cons hV.2.1 (by have := vkv_getD hV.1 k.val; rw [hL] at this; exact this), hV.2.2.1, hV.2.2.2⟩ H locs ls hw hs hl
    rw [xnx_eq h2] at K
    exact K
  · exact hk.elim
theorem st_lload (k : Nat) (hp : prg M i = (pc, .lload k, a, b, k0, sw)) (hok : okI M i pc (.lload k) a b k0 sw = true) (F : gCF G p s m args meth c M) (hV : gV M L S σ) (hk : gSC p l e R s m args below meth c Q G cells slots ly (mstepI ly d M i L S σ (.lload k) a b k0 sw)) : gWS p l e R s m args below meth c Q G cells slots ly M i L S σ := by
  obtain ⟨hx, hb, hml, hown, hts, hrt, hlk, hnm, hE⟩ := F
  simp only [okI, Bool.and_eq_true, decide_eq_true_eq] at hok
  obtain ⟨h1, h2⟩ := hok
  have hpc : (prg M i).1 = pc := by rw [hp]
  simp only [mstepI, mldl] at hk
  split at hk
  · rename_i z u hL hL2
    intro H locs ls hw hs hl
    rw [hpc]
    refine lv_lload hx hb (xdec_eq h1) (gLR_long hl hL hL2) ?_
    have K := hk ⟨hV.1, vkv_cons hV.2.1 (by have := vkv_getD hV.1 k; rw [hL] at this; exact this), hV.2.2.1, hV.2.2.2⟩ H locs ls hw hs hl
    rw [xnx_eq h2] at K
    exact K
  · exact hk.elim
theorem st_istore_n (k : Fin 4) (hp : prg M i = (pc, .istore_n k, a, b, k0, sw)) (hok : okI M i pc (.istore_n k) a b k0 sw = true) (F : gCF G p s m args meth c M) (hV : gV M L S σ) (hk : gSC p l e R s m args below meth c Q G cells slots ly (mstepI ly d M i L S σ (.istore_n k) a b k0 sw)) : gWS p l e R s m args below meth c Q G cells slots ly M i L S σ := by
  obtain ⟨hx, hb, hml, hown, hts, hrt, hlk, hnm, hE⟩ := F
  simp only [okI, Bool.and_eq_true, decide_eq_true_eq] at hok
  obtain ⟨h1, h2⟩ := hok
  have hpc : (prg M i).1 = pc := by rw [hp]
  simp only [mstepI, msti] at hk
  split at hk
  · rename_i z S'
    by_cases hn : k.val < L.length
    · rw [show Nat.blt k.val L.length = true from by simpa using hn] at hk
      simp only [cond_true] at hk
      intro H locs ls hw hs hl
      rw [hpc]
      refine lv_istore_n (nL := L.length) (lv := gcl G L) hx hb (xdec_eq h1) rfl hl hn rfl (fun ls' hl' => ?_)
      have K := hk ⟨vkv_set hV.1 (vkv_hd hV.2.1), vkv_tl hV.2.1, hV.2.2.1, by rw [← hV.2.2.2]; exact List.length_set⟩ H locs ls' hw hs (gLR_st1 hn (by unfold gclaim; rw [getD_set hn, if_pos rfl]) (fun q => by cases q) (fun _ q => by cases q) hl')
      rw [xnx_eq h2] at K
      exact K
    · rw [show Nat.blt k.val L.length = false from blt_f hn] at hk
      exact hk.elim
  · exact hk.elim
theorem st_istore (k : Nat) (hp : prg M i = (pc, .istore k, a, b, k0, sw)) (hok : okI M i pc (.istore k) a b k0 sw = true) (F : gCF G p s m args meth c M) (hV : gV M L S σ) (hk : gSC p l e R s m args below meth c Q G cells slots ly (mstepI ly d M i L S σ (.istore k) a b k0 sw)) : gWS p l e R s m args below meth c Q G cells slots ly M i L S σ := by
  obtain ⟨hx, hb, hml, hown, hts, hrt, hlk, hnm, hE⟩ := F
  simp only [okI, Bool.and_eq_true, decide_eq_true_eq] at hok
  obtain ⟨h1, h2⟩ := hok
  have hpc : (prg M i).1 = pc := by rw [hp]
  simp only [mstepI, msti] at hk
  split at hk
  · rename_i z S'
    by_cases hn : k < L.length
    · rw [show Nat.blt k L.length = true from by simpa using hn] at hk
      simp only [cond_true] at hk
      intro H locs ls hw hs hl
      rw [hpc]
      refine lv_istore (nL := L.length) (lv := gcl G L) hx hb (xdec_eq h1) hl hn rfl (fun ls' hl' => ?_)
      have K := hk ⟨vkv_set hV.1 (vkv_hd hV.2.1), vkv_tl hV.2.1, hV.2.2.1, by rw [← hV.2.2.2]; exact List.length_set⟩ H locs ls' hw hs (gLR_st1 hn (by unfold gclaim; rw [getD_set hn, if_pos rfl]) (fun q => by cases q) (fun _ q => by cases q) hl')
      rw [xnx_eq h2] at K
      exact K
    · rw [show Nat.blt k L.length = false from blt_f hn] at hk
      exact hk.elim
  · exact hk.elim
theorem st_astore_n (k : Fin 4) (hp : prg M i = (pc, .astore_n k, a, b, k0, sw)) (hok : okI M i pc (.astore_n k) a b k0 sw = true) (F : gCF G p s m args meth c M) (hV : gV M L S σ) (hk : gSC p l e R s m args below meth c Q G cells slots ly (mstepI ly d M i L S σ (.astore_n k) a b k0 sw)) : gWS p l e R s m args below meth c Q G cells slots ly M i L S σ := by
  obtain ⟨hx, hb, hml, hown, hts, hrt, hlk, hnm, hE⟩ := F
  simp only [okI, Bool.and_eq_true, decide_eq_true_eq] at hok
  obtain ⟨h1, h2⟩ := hok
  have hpc : (prg M i).1 = pc := by rw [hp]
  simp only [mstepI, msta] at hk
  split at hk
  · rename_i z S'
    by_cases hn : k.val < L.length
    · rw [show Nat.blt k.val L.length = true from by simpa using hn] at hk
      simp only [cond_true] at hk
      intro H locs ls hw hs hl
      rw [hpc]
      refine lv_astore_n (nL := L.length) (lv := gcl G L) hx hb (xdec_eq h1) rfl hl hn rfl (fun ls' hl' => ?_)
      have K := hk ⟨vkv_set hV.1 trivial, vkv_tl hV.2.1, hV.2.2.1, by rw [← hV.2.2.2]; exact List.length_set⟩ H locs ls' hw hs (gLR_st1 hn (by unfold gclaim; rw [getD_set hn, if_pos rfl]) (fun q => by cases q) (fun _ q => by cases q) hl')
      rw [xnx_eq h2] at K
      exact K
    · rw [show Nat.blt k.val L.length = false from blt_f hn] at hk
      exact hk.elim
  · exact hk.elim
theorem st_lstore_n (k : Fin 4) (hp : prg M i = (pc, .lstore_n k, a, b, k0, sw)) (hok : okI M i pc (.lstore_n k) a b k0 sw = true) (F : gCF G p s m args meth c M) (hV : gV M L S σ) (hk : gSC p l e R s m args below meth c Q G cells slots ly (mstepI ly d M i L S σ (.lstore_n k) a b k0 sw)) : gWS p l e R s m args below meth c Q G cells slots ly M i L S σ := by
  obtain ⟨hx, hb, hml, hown, hts, hrt, hlk, hnm, hE⟩ := F
  simp only [okI, Bool.and_eq_true, decide_eq_true_eq] at hok
  obtain ⟨h1, h2⟩ := hok
  have hpc : (prg M i).1 = pc := by rw [hp]
  simp only [mstepI, mstl] at hk
  split at hk
  · rename_i z S'
    by_cases hn : k.val + 1 < L.length
    · rw [show Nat.blt (k.val + 1) L.length = true from by simpa using hn] at hk
      simp only [cond_true] at hk
      intro H locs ls hw hs hl
      rw [hpc]
      refine lv_lstore_n (nL := L.length) (lv := gcl G L) hx hb (xdec_eq h1) rfl hl hn rfl (fun ls' hl' => ?_)
      have K := hk ⟨vkv_set (vkv_set hV.1 (vkv_hd hV.2.1)) trivial, vkv_tl hV.2.1, hV.2.2.1, by rw [← hV.2.2.2]; simp [mst2]⟩ H locs ls' hw hs (gLR_st2 hn hl')
      rw [xnx_eq h2] at K
      exact K
    · rw [show Nat.blt (k.val + 1) L.length = false from blt_f hn] at hk
      exact hk.elim
  · exact hk.elim
theorem st_lstore (k : Nat) (hp : prg M i = (pc, .lstore k, a, b, k0, sw)) (hok : okI M i pc (.lstore k) a b k0 sw = true) (F : gCF G p s m args meth c M) (hV : gV M L S σ) (hk : gSC p l e R s m args below meth c Q G cells slots ly (mstepI ly d M i L S σ (.lstore k) a b k0 sw)) : gWS p l e R s m args below meth c Q G cells slots ly M i L S σ := by
  obtain ⟨hx, hb, hml, hown, hts, hrt, hlk, hnm, hE⟩ := F
  simp only [okI, Bool.and_eq_true, decide_eq_true_eq] at hok
  obtain ⟨h1, h2⟩ := hok
  have hpc : (prg M i).1 = pc := by rw [hp]
  simp only [mstepI, mstl] at hk
  split at hk
  · rename_i z S'
    by_cases hn : k + 1 < L.length
    · rw [show Nat.blt (k + 1) L.length = true from by simpa using hn] at hk
      simp only [cond_true] at hk
      intro H locs ls hw hs hl
      rw [hpc]
      refine lv_lstore (nL := L.length) (lv := gcl G L) hx hb (xdec_eq h1) hl hn rfl (fun ls' hl' => ?_)
      have K := hk ⟨vkv_set (vkv_set hV.1 (vkv_hd hV.2.1)) trivial, vkv_tl hV.2.1, hV.2.2.1, by rw [← hV.2.2.2]; simp [mst2]⟩ H locs ls' hw hs (gLR_st2 hn hl')
      rw [xnx_eq h2] at K
      exact K
    · rw [show Nat.blt (k + 1) L.length = false from blt_f hn] at hk
      exact hk.elim
  · exact hk.elim
theorem st_iinc (k : Nat) (n : Int) (hp : prg M i = (pc, .iinc k n, a, b, k0, sw)) (hok : okI M i pc (.iinc k n) a b k0 sw = true) (F : gCF G p s m args meth c M) (hV : gV M L S σ) (hk : gSC p l e R s m args below meth c Q G cells slots ly (mstepI ly d M i L S σ (.iinc k n) a b k0 sw)) : gWS p l e R s m args below meth c Q G cells slots ly M i L S σ := by
  obtain ⟨hx, hb, hml, hown, hts, hrt, hlk, hnm, hE⟩ := F
  simp only [okI, Bool.and_eq_true, decide_eq_true_eq] at hok
  obtain ⟨⟨⟨h1, h2⟩, h3⟩, h4⟩ := hok
  have hpc : (prg M i).1 = pc := by rw [hp]
  subst h3
  simp only [mstepI] at hk
  split at hk
  · rename_i z hL
    by_cases hn : k < L.length
    · rw [show Nat.blt k L.length = true from by simpa using hn] at hk
      simp only [cond_true] at hk
      intro H locs ls hw hs hl
      rw [hpc]
      obtain ⟨j, hj⟩ := List.getElem?_of_mem (gcl_mem (G := G) (v := .int (Int32.ofInt z)) hn (by unfold gclaim; rw [hL]))
      refine lv_iinc (nL := L.length) (lv := gcl G L) hx hb (xdec_eq h1) hl hj (i32_add z n) hn rfl (fun ls' hl' => ?_)
      have K := hk ⟨vkv_set hV.1 (mwrap_rng _), hV.2.1, hV.2.2.1, by rw [← hV.2.2.2]; exact List.length_set⟩ H locs ls' hw hs (gLR_st1 hn (by unfold gclaim; rw [getD_set hn, if_pos rfl]) (fun q => by cases q) (fun _ q => by cases q) hl')
      rw [xnx_eq h2] at K
      exact K
    · rw [show Nat.blt k L.length = false from blt_f hn] at hk
      exact hk.elim
  · exact hk.elim
theorem st_iconst (n : Int) (hp : prg M i = (pc, .iconst n, a, b, k0, sw)) (hok : okI M i pc (.iconst n) a b k0 sw = true) (F : gCF G p s m args meth c M) (hV : gV M L S σ) (hk : gSC p l e R s m args below meth c Q G cells slots ly (mstepI ly d M i L S σ (.iconst n) a b k0 sw)) : gWS p l e R s m args below meth c Q G cells slots ly M i L S σ := by
  obtain ⟨hx, hb, hml, hown, hts, hrt, hlk, hnm, hE⟩ := F
  simp only [okI, Bool.and_eq_true, decide_eq_true_eq] at hok
  obtain ⟨⟨⟨h1, h2⟩, h3⟩, h4⟩ := hok
  have hpc : (prg M i).1 = pc := by rw [hp]
  simp only [mstepI] at hk
  intro H locs ls hw hs hl
  rw [hpc]
  subst h3
  refine lv_iconst hx hb (xdec_eq h1) rfl ?_
  have K := hk ⟨hV.1, vkv_cons hV.2.1 (r32_rng h4), hV.2.2.1, hV.2.2.2⟩ H locs ls hw hs hl
  rw [xnx_eq h2] at K
  exact K
theorem st_bipush (n : Int) (hp : prg M i = (pc, .bipush n, a, b, k0, sw)) (hok : okI M i pc (.bipush n) a b k0 sw = true) (F : gCF G p s m args meth c M) (hV : gV M L S σ) (hk : gSC p l e R s m args below meth c Q G cells slots ly (mstepI ly d M i L S σ (.bipush n) a b k0 sw)) : gWS p l e R s m args below meth c Q G cells slots ly M i L S σ := by
  obtain ⟨hx, hb, hml, hown, hts, hrt, hlk, hnm, hE⟩ := F
  simp only [okI, Bool.and_eq_true, decide_eq_true_eq] at hok
  obtain ⟨⟨⟨h1, h2⟩, h3⟩, h4⟩ := hok
  have hpc : (prg M i).1 = pc := by rw [hp]
  simp only [mstepI] at hk
  intro H locs ls hw hs hl
  rw [hpc]
  skip
  refine lv_bipush hx hb (xdec_eq h1) h3 ?_
  have K := hk ⟨hV.1, vkv_cons hV.2.1 (r32_rng h4), hV.2.2.1, hV.2.2.2⟩ H locs ls hw hs hl
  rw [xnx_eq h2] at K
  exact K
theorem st_sipush (n : Int) (hp : prg M i = (pc, .sipush n, a, b, k0, sw)) (hok : okI M i pc (.sipush n) a b k0 sw = true) (F : gCF G p s m args meth c M) (hV : gV M L S σ) (hk : gSC p l e R s m args below meth c Q G cells slots ly (mstepI ly d M i L S σ (.sipush n) a b k0 sw)) : gWS p l e R s m args below meth c Q G cells slots ly M i L S σ := by
  obtain ⟨hx, hb, hml, hown, hts, hrt, hlk, hnm, hE⟩ := F
  simp only [okI, Bool.and_eq_true, decide_eq_true_eq] at hok
  obtain ⟨⟨⟨h1, h2⟩, h3⟩, h4⟩ := hok
  have hpc : (prg M i).1 = pc := by rw [hp]
  simp only [mstepI] at hk
  intro H locs ls hw hs hl
  rw [hpc]
  skip
  refine lv_sipush hx hb (xdec_eq h1) h3 ?_
  have K := hk ⟨hV.1, vkv_cons hV.2.1 (r32_rng h4), hV.2.2.1, hV.2.2.2⟩ H locs ls hw hs hl
  rw [xnx_eq h2] at K
  exact K
theorem st_ldc (k : Nat) (hp : prg M i = (pc, .ldc k, a, b, k0, sw)) (hok : okI M i pc (.ldc k) a b k0 sw = true) (F : gCF G p s m args meth c M) (hV : gV M L S σ) (hk : gSC p l e R s m args below meth c Q G cells slots ly (mstepI ly d M i L S σ (.ldc k) a b k0 sw)) : gWS p l e R s m args below meth c Q G cells slots ly M i L S σ := by
  obtain ⟨hx, hb, hml, hown, hts, hrt, hlk, hnm, hE⟩ := F
  simp only [okI, Bool.and_eq_true, decide_eq_true_eq] at hok
  obtain ⟨⟨⟨h1, h2⟩, h3⟩, h4⟩ := hok
  have hpc : (prg M i).1 = pc := by rw [hp]
  simp only [mstepI] at hk
  intro H locs ls hw hs hl
  rw [hpc]
  skip
  refine lv_ldc hx hb hown (hts _ (tbAt_mem h3)) (xdec_eq h1) ?_
  have K := hk ⟨hV.1, vkv_cons hV.2.1 (r32_rng h4), hV.2.2.1, hV.2.2.2⟩ H locs ls hw hs hl
  rw [xnx_eq h2] at K
  exact K
theorem st_ldc_w (k : Nat) (hp : prg M i = (pc, .ldc_w k, a, b, k0, sw)) (hok : okI M i pc (.ldc_w k) a b k0 sw = true) (F : gCF G p s m args meth c M) (hV : gV M L S σ) (hk : gSC p l e R s m args below meth c Q G cells slots ly (mstepI ly d M i L S σ (.ldc_w k) a b k0 sw)) : gWS p l e R s m args below meth c Q G cells slots ly M i L S σ := by
  obtain ⟨hx, hb, hml, hown, hts, hrt, hlk, hnm, hE⟩ := F
  simp only [okI, Bool.and_eq_true, decide_eq_true_eq] at hok
  obtain ⟨⟨⟨h1, h2⟩, h3⟩, h4⟩ := hok
  have hpc : (prg M i).1 = pc := by rw [hp]
  simp only [mstepI] at hk
  intro H locs ls hw hs hl
  rw [hpc]
  skip
  refine lv_ldcw hx hb hown (hts _ (tbAt_mem h3)) (xdec_eq h1) ?_
  have K := hk ⟨hV.1, vkv_cons hV.2.1 (r32_rng h4), hV.2.2.1, hV.2.2.2⟩ H locs ls hw hs hl
  rw [xnx_eq h2] at K
  exact K
theorem st_ldc2_w (k : Nat) (hp : prg M i = (pc, .ldc2_w k, a, b, k0, sw)) (hok : okI M i pc (.ldc2_w k) a b k0 sw = true) (F : gCF G p s m args meth c M) (hV : gV M L S σ) (hk : gSC p l e R s m args below meth c Q G cells slots ly (mstepI ly d M i L S σ (.ldc2_w k) a b k0 sw)) : gWS p l e R s m args below meth c Q G cells slots ly M i L S σ := by
  obtain ⟨hx, hb, hml, hown, hts, hrt, hlk, hnm, hE⟩ := F
  simp only [okI, Bool.and_eq_true, decide_eq_true_eq] at hok
  obtain ⟨⟨⟨h1, h2⟩, h3⟩, h4⟩ := hok
  have hpc : (prg M i).1 = pc := by rw [hp]
  simp only [mstepI] at hk
  intro H locs ls hw hs hl
  rw [hpc]
  skip
  refine lv_ldc2 hx hb hown (hts _ (tbAt_mem h3)) (xdec_eq h1) ?_
  have K := hk ⟨hV.1, vkv_cons hV.2.1 (r64_rng h4), hV.2.2.1, hV.2.2.2⟩ H locs ls hw hs hl
  rw [xnx_eq h2] at K
  exact K
theorem st_lconst (n : Fin 2) (hp : prg M i = (pc, .lconst n, a, b, k0, sw)) (hok : okI M i pc (.lconst n) a b k0 sw = true) (F : gCF G p s m args meth c M) (hV : gV M L S σ) (hk : gSC p l e R s m args below meth c Q G cells slots ly (mstepI ly d M i L S σ (.lconst n) a b k0 sw)) : gWS p l e R s m args below meth c Q G cells slots ly M i L S σ := by
  obtain ⟨hx, hb, hml, hown, hts, hrt, hlk, hnm, hE⟩ := F
  simp only [okI, Bool.and_eq_true, decide_eq_true_eq] at hok
  obtain ⟨⟨⟨h1, h2⟩, h3⟩, h4⟩ := hok
  have hpc : (prg M i).1 = pc := by rw [hp]
  simp only [mstepI] at hk
  intro H locs ls hw hs hl
  rw [hpc]
  skip
  refine lv_lconst hx hb (xdec_eq h1) h3 ?_
  have K := hk ⟨hV.1, vkv_cons hV.2.1 (r64_rng h4), hV.2.2.1, hV.2.2.2⟩ H locs ls hw hs hl
  rw [xnx_eq h2] at K
  exact K
theorem st_iadd (hp : prg M i = (pc, .iadd, a, b, k0, sw)) (hok : okI M i pc (.iadd) a b k0 sw = true) (F : gCF G p s m args meth c M) (hV : gV M L S σ) (hk : gSC p l e R s m args below meth c Q G cells slots ly (mstepI ly d M i L S σ (.iadd) a b k0 sw)) : gWS p l e R s m args below meth c Q G cells slots ly M i L S σ := by
  obtain ⟨hx, hb, hml, hown, hts, hrt, hlk, hnm, hE⟩ := F
  simp only [okI, Bool.and_eq_true, decide_eq_true_eq] at hok
  obtain ⟨h1, h2⟩ := hok
  have hpc : (prg M i).1 = pc := by rw [hp]
  simp only [mstepI, mbin] at hk
  split at hk
  · rename_i y x S'
    intro H locs ls hw hs hl
    rw [hpc]
    refine lv_iadd hx hb (xdec_eq h1) ?_
    have K := hk ⟨hV.1, vkv_cons (vkv_tl (vkv_tl hV.2.1)) (mwrap_rng _), hV.2.2.1, hV.2.2.2⟩ H locs ls hw hs hl
    rw [xnx_eq h2] at K
    rw [i32_add]
    exact K
  · exact hk.elim
theorem st_isub (hp : prg M i = (pc, .isub, a, b, k0, sw)) (hok : okI M i pc (.isub) a b k0 sw = true) (F : gCF G p s m args meth c M) (hV : gV M L S σ) (hk : gSC p l e R s m args below meth c Q G cells slots ly (mstepI ly d M i L S σ (.isub) a b k0 sw)) : gWS p l e R s m args below meth c Q G cells slots ly M i L S σ := by
  obtain ⟨hx, hb, hml, hown, hts, hrt, hlk, hnm, hE⟩ := F
  simp only [okI, Bool.and_eq_true, decide_eq_true_eq] at hok
  obtain ⟨h1, h2⟩ := hok
  have hpc : (prg M i).1 = pc := by rw [hp]
  simp only [mstepI, mbin] at hk
  split at hk
  · rename_i y x S'
    intro H locs ls hw hs hl
    rw [hpc]
    refine lv_isub hx hb (xdec_eq h1) ?_
    have K := hk ⟨hV.1, vkv_cons (vkv_tl (vkv_tl hV.2.1)) (mwrap_rng _), hV.2.2.1, hV.2.2.2⟩ H locs ls hw hs hl
    rw [xnx_eq h2] at K
    rw [i32_sub]
    exact K
  · exact hk.elim
theorem st_imul (hp : prg M i = (pc, .imul, a, b, k0, sw)) (hok : okI M i pc (.imul) a b k0 sw = true) (F : gCF G p s m args meth c M) (hV : gV M L S σ) (hk : gSC p l e R s m args below meth c Q G cells slots ly (mstepI ly d M i L S σ (.imul) a b k0 sw)) : gWS p l e R s m args below meth c Q G cells slots ly M i L S σ := by
  obtain ⟨hx, hb, hml, hown, hts, hrt, hlk, hnm, hE⟩ := F
  simp only [okI, Bool.and_eq_true, decide_eq_true_eq] at hok
  obtain ⟨h1, h2⟩ := hok
  have hpc : (prg M i).1 = pc := by rw [hp]
  simp only [mstepI, mbin] at hk
  split at hk
  · rename_i y x S'
    intro H locs ls hw hs hl
    rw [hpc]
    refine lv_imul hx hb (xdec_eq h1) ?_
    have K := hk ⟨hV.1, vkv_cons (vkv_tl (vkv_tl hV.2.1)) (mwrap_rng _), hV.2.2.1, hV.2.2.2⟩ H locs ls hw hs hl
    rw [xnx_eq h2] at K
    rw [i32_mul]
    exact K
  · exact hk.elim
theorem st_ladd (hp : prg M i = (pc, .ladd, a, b, k0, sw)) (hok : okI M i pc (.ladd) a b k0 sw = true) (F : gCF G p s m args meth c M) (hV : gV M L S σ) (hk : gSC p l e R s m args below meth c Q G cells slots ly (mstepI ly d M i L S σ (.ladd) a b k0 sw)) : gWS p l e R s m args below meth c Q G cells slots ly M i L S σ := by
  obtain ⟨hx, hb, hml, hown, hts, hrt, hlk, hnm, hE⟩ := F
  simp only [okI, Bool.and_eq_true, decide_eq_true_eq] at hok
  obtain ⟨h1, h2⟩ := hok
  have hpc : (prg M i).1 = pc := by rw [hp]
  simp only [mstepI, mbinL] at hk
  split at hk
  · rename_i y x S'
    intro H locs ls hw hs hl
    rw [hpc]
    refine lv_ladd hx hb (xdec_eq h1) ?_
    have K := hk ⟨hV.1, vkv_cons (vkv_tl (vkv_tl hV.2.1)) (mwrapL_rng _), hV.2.2.1, hV.2.2.2⟩ H locs ls hw hs hl
    rw [xnx_eq h2] at K
    rw [i64_add]
    exact K
  · exact hk.elim
theorem st_lsub (hp : prg M i = (pc, .lsub, a, b, k0, sw)) (hok : okI M i pc (.lsub) a b k0 sw = true) (F : gCF G p s m args meth c M) (hV : gV M L S σ) (hk : gSC p l e R s m args below meth c Q G cells slots ly (mstepI ly d M i L S σ (.lsub) a b k0 sw)) : gWS p l e R s m args below meth c Q G cells slots ly M i L S σ := by
  obtain ⟨hx, hb, hml, hown, hts, hrt, hlk, hnm, hE⟩ := F
  simp only [okI, Bool.and_eq_true, decide_eq_true_eq] at hok
  obtain ⟨h1, h2⟩ := hok
  have hpc : (prg M i).1 = pc := by rw [hp]
  simp only [mstepI, mbinL] at hk
  split at hk
  · rename_i y x S'
    intro H locs ls hw hs hl
    rw [hpc]
    refine lv_lsub hx hb (xdec_eq h1) ?_
    have K := hk ⟨hV.1, vkv_cons (vkv_tl (vkv_tl hV.2.1)) (mwrapL_rng _), hV.2.2.1, hV.2.2.2⟩ H locs ls hw hs hl
    rw [xnx_eq h2] at K
    rw [i64_sub]
    exact K
  · exact hk.elim
theorem st_lmul (hp : prg M i = (pc, .lmul, a, b, k0, sw)) (hok : okI M i pc (.lmul) a b k0 sw = true) (F : gCF G p s m args meth c M) (hV : gV M L S σ) (hk : gSC p l e R s m args below meth c Q G cells slots ly (mstepI ly d M i L S σ (.lmul) a b k0 sw)) : gWS p l e R s m args below meth c Q G cells slots ly M i L S σ := by
  obtain ⟨hx, hb, hml, hown, hts, hrt, hlk, hnm, hE⟩ := F
  simp only [okI, Bool.and_eq_true, decide_eq_true_eq] at hok
  obtain ⟨h1, h2⟩ := hok
  have hpc : (prg M i).1 = pc := by rw [hp]
  simp only [mstepI, mbinL] at hk
  split at hk
  · rename_i y x S'
    intro H locs ls hw hs hl
    rw [hpc]
    refine lv_lmul hx hb (xdec_eq h1) ?_
    have K := hk ⟨hV.1, vkv_cons (vkv_tl (vkv_tl hV.2.1)) (mwrapL_rng _), hV.2.2.1, hV.2.2.2⟩ H locs ls hw hs hl
    rw [xnx_eq h2] at K
    rw [i64_mul]
    exact K
  · exact hk.elim
theorem st_iand (hp : prg M i = (pc, .iand, a, b, k0, sw)) (hok : okI M i pc (.iand) a b k0 sw = true) (F : gCF G p s m args meth c M) (hV : gV M L S σ) (hk : gSC p l e R s m args below meth c Q G cells slots ly (mstepI ly d M i L S σ (.iand) a b k0 sw)) : gWS p l e R s m args below meth c Q G cells slots ly M i L S σ := by
  obtain ⟨hx, hb, hml, hown, hts, hrt, hlk, hnm, hE⟩ := F
  simp only [okI, Bool.and_eq_true, decide_eq_true_eq] at hok
  obtain ⟨h1, h2⟩ := hok
  have hpc : (prg M i).1 = pc := by rw [hp]
  simp only [mstepI, mbin] at hk
  split at hk
  · rename_i y x S'
    intro H locs ls hw hs hl
    rw [hpc]
    refine lv_iand hx hb (xdec_eq h1) ?_
    have K := hk ⟨hV.1, vkv_cons (vkv_tl (vkv_tl hV.2.1)) (i32_rng _), hV.2.2.1, hV.2.2.2⟩ H locs ls hw hs hl
    rw [xnx_eq h2] at K
    have e : Int32.ofInt (mand x y) = _ := i32_of _
    simp only [List.map_cons, grv, e] at K
    exact K
  · exact hk.elim
theorem st_ior (hp : prg M i = (pc, .ior, a, b, k0, sw)) (hok : okI M i pc (.ior) a b k0 sw = true) (F : gCF G p s m args meth c M) (hV : gV M L S σ) (hk : gSC p l e R s m args below meth c Q G cells slots ly (mstepI ly d M i L S σ (.ior) a b k0 sw)) : gWS p l e R s m args below meth c Q G cells slots ly M i L S σ := by
  obtain ⟨hx, hb, hml, hown, hts, hrt, hlk, hnm, hE⟩ := F
  simp only [okI, Bool.and_eq_true, decide_eq_true_eq] at hok
  obtain ⟨h1, h2⟩ := hok
  have hpc : (prg M i).1 = pc := by rw [hp]
  simp only [mstepI, mbin] at hk
  split at hk
  · rename_i y x S'
    intro H locs ls hw hs hl
    rw [hpc]
    refine lv_ior hx hb (xdec_eq h1) ?_
    have K := hk ⟨hV.1, vkv_cons (vkv_tl (vkv_tl hV.2.1)) (i32_rng _), hV.2.2.1, hV.2.2.2⟩ H locs ls hw hs hl
    rw [xnx_eq h2] at K
    have e : Int32.ofInt (mor x y) = _ := i32_of _
    simp only [List.map_cons, grv, e] at K
    exact K
  · exact hk.elim
theorem st_ixor (hp : prg M i = (pc, .ixor, a, b, k0, sw)) (hok : okI M i pc (.ixor) a b k0 sw = true) (F : gCF G p s m args meth c M) (hV : gV M L S σ) (hk : gSC p l e R s m args below meth c Q G cells slots ly (mstepI ly d M i L S σ (.ixor) a b k0 sw)) : gWS p l e R s m args below meth c Q G cells slots ly M i L S σ := by
  obtain ⟨hx, hb, hml, hown, hts, hrt, hlk, hnm, hE⟩ := F
  simp only [okI, Bool.and_eq_true, decide_eq_true_eq] at hok
  obtain ⟨h1, h2⟩ := hok
  have hpc : (prg M i).1 = pc := by rw [hp]
  simp only [mstepI, mbin] at hk
  split at hk
  · rename_i y x S'
    intro H locs ls hw hs hl
    rw [hpc]
    refine lv_ixor hx hb (xdec_eq h1) ?_
    have K := hk ⟨hV.1, vkv_cons (vkv_tl (vkv_tl hV.2.1)) (i32_rng _), hV.2.2.1, hV.2.2.2⟩ H locs ls hw hs hl
    rw [xnx_eq h2] at K
    have e : Int32.ofInt (mxor x y) = _ := i32_of _
    simp only [List.map_cons, grv, e] at K
    exact K
  · exact hk.elim
theorem st_ishl (hp : prg M i = (pc, .ishl, a, b, k0, sw)) (hok : okI M i pc (.ishl) a b k0 sw = true) (F : gCF G p s m args meth c M) (hV : gV M L S σ) (hk : gSC p l e R s m args below meth c Q G cells slots ly (mstepI ly d M i L S σ (.ishl) a b k0 sw)) : gWS p l e R s m args below meth c Q G cells slots ly M i L S σ := by
  obtain ⟨hx, hb, hml, hown, hts, hrt, hlk, hnm, hE⟩ := F
  simp only [okI, Bool.and_eq_true, decide_eq_true_eq] at hok
  obtain ⟨h1, h2⟩ := hok
  have hpc : (prg M i).1 = pc := by rw [hp]
  simp only [mstepI, mbin] at hk
  split at hk
  · rename_i y x S'
    intro H locs ls hw hs hl
    rw [hpc]
    refine lv_ishl hx hb (xdec_eq h1) ?_
    have K := hk ⟨hV.1, vkv_cons (vkv_tl (vkv_tl hV.2.1)) (i32_rng _), hV.2.2.1, hV.2.2.2⟩ H locs ls hw hs hl
    rw [xnx_eq h2] at K
    have e : Int32.ofInt (mshl x y) = _ := i32_of _
    simp only [List.map_cons, grv, e] at K
    exact K
  · exact hk.elim
theorem st_ishr (hp : prg M i = (pc, .ishr, a, b, k0, sw)) (hok : okI M i pc (.ishr) a b k0 sw = true) (F : gCF G p s m args meth c M) (hV : gV M L S σ) (hk : gSC p l e R s m args below meth c Q G cells slots ly (mstepI ly d M i L S σ (.ishr) a b k0 sw)) : gWS p l e R s m args below meth c Q G cells slots ly M i L S σ := by
  obtain ⟨hx, hb, hml, hown, hts, hrt, hlk, hnm, hE⟩ := F
  simp only [okI, Bool.and_eq_true, decide_eq_true_eq] at hok
  obtain ⟨h1, h2⟩ := hok
  have hpc : (prg M i).1 = pc := by rw [hp]
  simp only [mstepI, mbin] at hk
  split at hk
  · rename_i y x S'
    intro H locs ls hw hs hl
    rw [hpc]
    refine lv_ishr hx hb (xdec_eq h1) ?_
    have K := hk ⟨hV.1, vkv_cons (vkv_tl (vkv_tl hV.2.1)) (i32_rng _), hV.2.2.1, hV.2.2.2⟩ H locs ls hw hs hl
    rw [xnx_eq h2] at K
    have e : Int32.ofInt (mshr x y) = _ := i32_of _
    simp only [List.map_cons, grv, e] at K
    exact K
  · exact hk.elim
theorem st_iushr (hp : prg M i = (pc, .iushr, a, b, k0, sw)) (hok : okI M i pc (.iushr) a b k0 sw = true) (F : gCF G p s m args meth c M) (hV : gV M L S σ) (hk : gSC p l e R s m args below meth c Q G cells slots ly (mstepI ly d M i L S σ (.iushr) a b k0 sw)) : gWS p l e R s m args below meth c Q G cells slots ly M i L S σ := by
  obtain ⟨hx, hb, hml, hown, hts, hrt, hlk, hnm, hE⟩ := F
  simp only [okI, Bool.and_eq_true, decide_eq_true_eq] at hok
  obtain ⟨h1, h2⟩ := hok
  have hpc : (prg M i).1 = pc := by rw [hp]
  simp only [mstepI, mbin] at hk
  split at hk
  · rename_i y x S'
    intro H locs ls hw hs hl
    rw [hpc]
    refine lv_iushr hx hb (xdec_eq h1) (v := Int32.ofInt (mushr x y)) (i32_of _).symm ?_
    have K := hk ⟨hV.1, vkv_cons (vkv_tl (vkv_tl hV.2.1)) (i32_rng _), hV.2.2.1, hV.2.2.2⟩ H locs ls hw hs hl
    rw [xnx_eq h2] at K
    exact K
  · exact hk.elim
theorem st_ineg (hp : prg M i = (pc, .ineg, a, b, k0, sw)) (hok : okI M i pc (.ineg) a b k0 sw = true) (F : gCF G p s m args meth c M) (hV : gV M L S σ) (hk : gSC p l e R s m args below meth c Q G cells slots ly (mstepI ly d M i L S σ (.ineg) a b k0 sw)) : gWS p l e R s m args below meth c Q G cells slots ly M i L S σ := by
  obtain ⟨hx, hb, hml, hown, hts, hrt, hlk, hnm, hE⟩ := F
  simp only [okI, Bool.and_eq_true, decide_eq_true_eq] at hok
  obtain ⟨h1, h2⟩ := hok
  have hpc : (prg M i).1 = pc := by rw [hp]
  simp only [mstepI, mun] at hk
  split at hk
  · rename_i x S'
    intro H locs ls hw hs hl
    rw [hpc]
    refine lv_ineg hx hb (xdec_eq h1) ?_
    rw [i32_neg]
    have K := hk ⟨hV.1, vkv_cons (vkv_tl hV.2.1) (mwrap_rng _), hV.2.2.1, hV.2.2.2⟩ H locs ls hw hs hl
    rw [xnx_eq h2] at K
    exact K
  · exact hk.elim
theorem st_i2b (hp : prg M i = (pc, .i2b, a, b, k0, sw)) (hok : okI M i pc (.i2b) a b k0 sw = true) (F : gCF G p s m args meth c M) (hV : gV M L S σ) (hk : gSC p l e R s m args below meth c Q G cells slots ly (mstepI ly d M i L S σ (.i2b) a b k0 sw)) : gWS p l e R s m args below meth c Q G cells slots ly M i L S σ := by
  obtain ⟨hx, hb, hml, hown, hts, hrt, hlk, hnm, hE⟩ := F
  simp only [okI, Bool.and_eq_true, decide_eq_true_eq] at hok
  obtain ⟨h1, h2⟩ := hok
  have hpc : (prg M i).1 = pc := by rw [hp]
  simp only [mstepI, mun] at hk
  split at hk
  · rename_i x S'
    intro H locs ls hw hs hl
    rw [hpc]
    refine lv_i2b hx hb (xdec_eq h1) (v := Int32.ofInt (mi2b x)) (i32_of _).symm ?_
    have K := hk ⟨hV.1, vkv_cons (vkv_tl hV.2.1) (i32_rng _), hV.2.2.1, hV.2.2.2⟩ H locs ls hw hs hl
    rw [xnx_eq h2] at K
    exact K
  · exact hk.elim
theorem st_i2s (hp : prg M i = (pc, .i2s, a, b, k0, sw)) (hok : okI M i pc (.i2s) a b k0 sw = true) (F : gCF G p s m args meth c M) (hV : gV M L S σ) (hk : gSC p l e R s m args below meth c Q G cells slots ly (mstepI ly d M i L S σ (.i2s) a b k0 sw)) : gWS p l e R s m args below meth c Q G cells slots ly M i L S σ := by
  obtain ⟨hx, hb, hml, hown, hts, hrt, hlk, hnm, hE⟩ := F
  simp only [okI, Bool.and_eq_true, decide_eq_true_eq] at hok
  obtain ⟨h1, h2⟩ := hok
  have hpc : (prg M i).1 = pc := by rw [hp]
  simp only [mstepI, mun] at hk
  split at hk
  · rename_i x S'
    intro H locs ls hw hs hl
    rw [hpc]
    refine lv_i2s hx hb (xdec_eq h1) (v := Int32.ofInt (mi2s x)) (i32_of _).symm ?_
    have K := hk ⟨hV.1, vkv_cons (vkv_tl hV.2.1) (i32_rng _), hV.2.2.1, hV.2.2.2⟩ H locs ls hw hs hl
    rw [xnx_eq h2] at K
    exact K
  · exact hk.elim
theorem st_ldiv (hp : prg M i = (pc, .ldiv, a, b, k0, sw)) (hok : okI M i pc (.ldiv) a b k0 sw = true) (F : gCF G p s m args meth c M) (hV : gV M L S σ) (hk : gSC p l e R s m args below meth c Q G cells slots ly (mstepI ly d M i L S σ (.ldiv) a b k0 sw)) : gWS p l e R s m args below meth c Q G cells slots ly M i L S σ := by
  obtain ⟨hx, hb, hml, hown, hts, hrt, hlk, hnm, hE⟩ := F
  simp only [okI, Bool.and_eq_true, decide_eq_true_eq] at hok
  obtain ⟨h1, h2⟩ := hok
  have hpc : (prg M i).1 = pc := by rw [hp]
  simp only [mstepI] at hk
  split at hk
  · rename_i y x S'
    have h0 := of_decide_eq_true hk.1
    intro H locs ls hw hs hl
    rw [hpc]
    refine lv_ldiv hx hb (xdec_eq h1) (fun q => h0 ((i64_eq (vkv_hd hV.2.1) (vI_L vI_0)).mp q)) ?_
    rw [i64_div (vkv_hd (vkv_tl hV.2.1)) (vkv_hd hV.2.1)]
    have K := hk.2 ⟨hV.1, vkv_cons (vkv_tl (vkv_tl hV.2.1)) (mwrapL_rng _), hV.2.2.1, hV.2.2.2⟩ H locs ls hw hs hl
    rw [xnx_eq h2] at K
    exact K
  · exact hk.elim
theorem st_lrem (hp : prg M i = (pc, .lrem, a, b, k0, sw)) (hok : okI M i pc (.lrem) a b k0 sw = true) (F : gCF G p s m args meth c M) (hV : gV M L S σ) (hk : gSC p l e R s m args below meth c Q G cells slots ly (mstepI ly d M i L S σ (.lrem) a b k0 sw)) : gWS p l e R s m args below meth c Q G cells slots ly M i L S σ := by
  obtain ⟨hx, hb, hml, hown, hts, hrt, hlk, hnm, hE⟩ := F
  simp only [okI, Bool.and_eq_true, decide_eq_true_eq] at hok
  obtain ⟨h1, h2⟩ := hok
  have hpc : (prg M i).1 = pc := by rw [hp]
  simp only [mstepI] at hk
  split at hk
  · rename_i y x S'
    have h0 := of_decide_eq_true hk.1
    intro H locs ls hw hs hl
    rw [hpc]
    refine lv_lrem hx hb (xdec_eq h1) (fun q => h0 ((i64_eq (vkv_hd hV.2.1) (vI_L vI_0)).mp q)) ?_
    rw [i64_rem (vkv_hd (vkv_tl hV.2.1)) (vkv_hd hV.2.1)]
    have K := hk.2 ⟨hV.1, vkv_cons (vkv_tl (vkv_tl hV.2.1)) (mtmod_rng (vkv_hd (vkv_tl hV.2.1)) (vkv_hd hV.2.1)), hV.2.2.1, hV.2.2.2⟩ H locs ls hw hs hl
    rw [xnx_eq h2] at K
    exact K
  · exact hk.elim
theorem st_lcmp (hp : prg M i = (pc, .lcmp, a, b, k0, sw)) (hok : okI M i pc (.lcmp) a b k0 sw = true) (F : gCF G p s m args meth c M) (hV : gV M L S σ) (hk : gSC p l e R s m args below meth c Q G cells slots ly (mstepI ly d M i L S σ (.lcmp) a b k0 sw)) : gWS p l e R s m args below meth c Q G cells slots ly M i L S σ := by
  obtain ⟨hx, hb, hml, hown, hts, hrt, hlk, hnm, hE⟩ := F
  simp only [okI, Bool.and_eq_true, decide_eq_true_eq] at hok
  obtain ⟨h1, h2⟩ := hok
  have hpc : (prg M i).1 = pc := by rw [hp]
  simp only [mstepI] at hk
  split at hk
  · rename_i y x S'
    skip
    intro H locs ls hw hs hl
    rw [hpc]
    refine W.lcmp hx hb (xdec_eq h1) ?_
    rw [i64_cmp (vkv_hd (vkv_tl hV.2.1)) (vkv_hd hV.2.1)]
    have K := hk ⟨hV.1, vkv_cons (vkv_tl (vkv_tl hV.2.1)) (mlcmp_rng _ _), hV.2.2.1, hV.2.2.2⟩ H locs ls hw hs hl
    rw [xnx_eq h2] at K
    exact K
  · exact hk.elim
theorem st_i2l (hp : prg M i = (pc, .i2l, a, b, k0, sw)) (hok : okI M i pc (.i2l) a b k0 sw = true) (F : gCF G p s m args meth c M) (hV : gV M L S σ) (hk : gSC p l e R s m args below meth c Q G cells slots ly (mstepI ly d M i L S σ (.i2l) a b k0 sw)) : gWS p l e R s m args below meth c Q G cells slots ly M i L S σ := by
  obtain ⟨hx, hb, hml, hown, hts, hrt, hlk, hnm, hE⟩ := F
  simp only [okI, Bool.and_eq_true, decide_eq_true_eq] at hok
  obtain ⟨h1, h2⟩ := hok
  have hpc : (prg M i).1 = pc := by rw [hp]
  simp only [mstepI] at hk
  split at hk
  · rename_i x S'
    skip
    intro H locs ls hw hs hl
    rw [hpc]
    refine lv_i2l hx hb (xdec_eq h1) (i32_long (vkv_hd hV.2.1)) ?_
    have K := hk ⟨hV.1, vkv_cons (vkv_tl hV.2.1) (vI_L (vkv_hd hV.2.1)), hV.2.2.1, hV.2.2.2⟩ H locs ls hw hs hl
    rw [xnx_eq h2] at K
    exact K
  · exact hk.elim
theorem st_l2i (hp : prg M i = (pc, .l2i, a, b, k0, sw)) (hok : okI M i pc (.l2i) a b k0 sw = true) (F : gCF G p s m args meth c M) (hV : gV M L S σ) (hk : gSC p l e R s m args below meth c Q G cells slots ly (mstepI ly d M i L S σ (.l2i) a b k0 sw)) : gWS p l e R s m args below meth c Q G cells slots ly M i L S σ := by
  obtain ⟨hx, hb, hml, hown, hts, hrt, hlk, hnm, hE⟩ := F
  simp only [okI, Bool.and_eq_true, decide_eq_true_eq] at hok
  obtain ⟨h1, h2⟩ := hok
  have hpc : (prg M i).1 = pc := by rw [hp]
  simp only [mstepI] at hk
  split at hk
  · rename_i x S'
    skip
    intro H locs ls hw hs hl
    rw [hpc]
    refine lv_l2i hx hb (xdec_eq h1) i64_int ?_
    have K := hk ⟨hV.1, vkv_cons (vkv_tl hV.2.1) (mwrap_rng _), hV.2.2.1, hV.2.2.2⟩ H locs ls hw hs hl
    rw [xnx_eq h2] at K
    exact K
  · exact hk.elim
theorem st_dup (hp : prg M i = (pc, .dup, a, b, k0, sw)) (hok : okI M i pc (.dup) a b k0 sw = true) (F : gCF G p s m args meth c M) (hV : gV M L S σ) (hk : gSC p l e R s m args below meth c Q G cells slots ly (mstepI ly d M i L S σ (.dup) a b k0 sw)) : gWS p l e R s m args below meth c Q G cells slots ly M i L S σ := by
  obtain ⟨hx, hb, hml, hown, hts, hrt, hlk, hnm, hE⟩ := F
  simp only [okI, Bool.and_eq_true, decide_eq_true_eq] at hok
  obtain ⟨h1, h2⟩ := hok
  have hpc : (prg M i).1 = pc := by rw [hp]
  simp only [mstepI] at hk
  split at hk
  · rename_i z S'
    intro H locs ls hw hs hl
    rw [hpc]
    refine lv_dup hx hb (xdec_eq h1) rfl ?_
    have K := hk ⟨hV.1, vkv_cons hV.2.1 (vkv_hd hV.2.1), hV.2.2.1, hV.2.2.2⟩ H locs ls hw hs hl
    rw [xnx_eq h2] at K
    exact K
  · rename_i z S'
    intro H locs ls hw hs hl
    rw [hpc]
    refine lv_dup hx hb (xdec_eq h1) rfl ?_
    have K := hk ⟨hV.1, vkv_cons hV.2.1 (vkv_hd hV.2.1), hV.2.2.1, hV.2.2.2⟩ H locs ls hw hs hl
    rw [xnx_eq h2] at K
    exact K
  · exact hk.elim
theorem st_dup2 (hp : prg M i = (pc, .dup2, a, b, k0, sw)) (hok : okI M i pc (.dup2) a b k0 sw = true) (F : gCF G p s m args meth c M) (hV : gV M L S σ) (hk : gSC p l e R s m args below meth c Q G cells slots ly (mstepI ly d M i L S σ (.dup2) a b k0 sw)) : gWS p l e R s m args below meth c Q G cells slots ly M i L S σ := by
  obtain ⟨hx, hb, hml, hown, hts, hrt, hlk, hnm, hE⟩ := F
  simp only [okI, Bool.and_eq_true, decide_eq_true_eq] at hok
  obtain ⟨h1, h2⟩ := hok
  have hpc : (prg M i).1 = pc := by rw [hp]
  simp only [mstepI] at hk
  split at hk
  · rename_i z r S'
    intro H locs ls hw hs hl
    rw [hpc]
    refine lv_dup2_11 hx hb (xdec_eq h1) rfl rfl ?_
    have K := hk ⟨hV.1, vkv_cons (vkv_cons hV.2.1 (vkv_hd (vkv_tl hV.2.1))) (vkv_hd hV.2.1), hV.2.2.1, hV.2.2.2⟩ H locs ls hw hs hl
    rw [xnx_eq h2] at K
    exact K
  · exact hk.elim
theorem st_ifCond_eq (off : Int) (hp : prg M i = (pc, .ifCond .eq off, a, b, k0, sw)) (hok : okI M i pc (.ifCond .eq off) a b k0 sw = true) (F : gCF G p s m args meth c M) (hV : gV M L S σ) (hk : gSC p l e R s m args below meth c Q G cells slots ly (mstepI ly d M i L S σ (.ifCond .eq off) a b k0 sw)) : gWS p l e R s m args below meth c Q G cells slots ly M i L S σ := by
  obtain ⟨hx, hb, hml, hown, hts, hrt, hlk, hnm, hE⟩ := F
  simp only [okI, Bool.and_eq_true, decide_eq_true_eq] at hok
  obtain ⟨⟨h1, h2⟩, h3⟩ := hok
  have hpc : (prg M i).1 = pc := by rw [hp]
  simp only [mstepI, micond] at hk
  split at hk
  · rename_i x S'
    have hx1 : vI x := vkv_hd hV.2.1
    have hy1 : vI 0 := vI_0
    have L1 := i32_eq hx1 hy1
    intro H locs ls hw hs hl
    rw [hpc]
    refine lv_if_eq hx hb (xdec_eq h1) (xtg_eq h3) (fun h => ?_) (fun h => ?_)
    · exact hk.1 (decide_eq_true (L1.mp h)) ⟨hV.1, vkv_tl hV.2.1, hV.2.2.1, hV.2.2.2⟩ H locs ls hw hs hl
    · have K := hk.2 (decide_eq_false (fun z => h (L1.mpr z))) ⟨hV.1, vkv_tl hV.2.1, hV.2.2.1, hV.2.2.2⟩ H locs ls hw hs hl
      rw [xnx_eq h2] at K
      exact K
  · exact hk.elim
theorem st_ifCond_ne (off : Int) (hp : prg M i = (pc, .ifCond .ne off, a, b, k0, sw)) (hok : okI M i pc (.ifCond .ne off) a b k0 sw = true) (F : gCF G p s m args meth c M) (hV : gV M L S σ) (hk : gSC p l e R s m args below meth c Q G cells slots ly (mstepI ly d M i L S σ (.ifCond .ne off) a b k0 sw)) : gWS p l e R s m args below meth c Q G cells slots ly M i L S σ := by
  obtain ⟨hx, hb, hml, hown, hts, hrt, hlk, hnm, hE⟩ := F
  simp only [okI, Bool.and_eq_true, decide_eq_true_eq] at hok
  obtain ⟨⟨h1, h2⟩, h3⟩ := hok
  have hpc : (prg M i).1 = pc := by rw [hp]
  simp only [mstepI, micond] at hk
  split at hk
  · rename_i x S'
    have hx1 : vI x := vkv_hd hV.2.1
    have hy1 : vI 0 := vI_0
    have L1 := i32_eq hx1 hy1
    intro H locs ls hw hs hl
    rw [hpc]
    refine lv_if_ne hx hb (xdec_eq h1) (xtg_eq h3) (fun h => ?_) (fun h => ?_)
    · exact hk.1 (decide_eq_true (fun z => h (L1.mpr z))) ⟨hV.1, vkv_tl hV.2.1, hV.2.2.1, hV.2.2.2⟩ H locs ls hw hs hl
    · have K := hk.2 (decide_eq_false (fun z => z (L1.mp h))) ⟨hV.1, vkv_tl hV.2.1, hV.2.2.1, hV.2.2.2⟩ H locs ls hw hs hl
      rw [xnx_eq h2] at K
      exact K
  · exact hk.elim
theorem st_ifCond_lt (off : Int) (hp : prg M i = (pc, .ifCond .lt off, a, b, k0, sw)) (hok : okI M i pc (.ifCond .lt off) a b k0 sw = true) (F : gCF G p s m args meth c M) (hV : gV M L S σ) (hk : gSC p l e R s m args below meth c Q G cells slots ly (mstepI ly d M i L S σ (.ifCond .lt off) a b k0 sw)) : gWS p l e R s m args below meth c Q G cells slots ly M i L S σ := by
  obtain ⟨hx, hb, hml, hown, hts, hrt, hlk, hnm, hE⟩ := F
  simp only [okI, Bool.and_eq_true, decide_eq_true_eq] at hok
  obtain ⟨⟨h1, h2⟩, h3⟩ := hok
  have hpc : (prg M i).1 = pc := by rw [hp]
  simp only [mstepI, micond] at hk
  split at hk
  · rename_i x S'
    have hx1 : vI x := vkv_hd hV.2.1
    have hy1 : vI 0 := vI_0
    have L1 := i32_lt hx1 hy1
    intro H locs ls hw hs hl
    rw [hpc]
    refine lv_if_lt hx hb (xdec_eq h1) (xtg_eq h3) (fun h => ?_) (fun h => ?_)
    · exact hk.1 (decide_eq_true (L1.mp h)) ⟨hV.1, vkv_tl hV.2.1, hV.2.2.1, hV.2.2.2⟩ H locs ls hw hs hl
    · have K := hk.2 (decide_eq_false (fun z => h (L1.mpr z))) ⟨hV.1, vkv_tl hV.2.1, hV.2.2.1, hV.2.2.2⟩ H locs ls hw hs hl
      rw [xnx_eq h2] at K
      exact K
  · exact hk.elim
theorem st_ifCond_ge (off : Int) (hp : prg M i = (pc, .ifCond .ge off, a, b, k0, sw)) (hok : okI M i pc (.ifCond .ge off) a b k0 sw = true) (F : gCF G p s m args meth c M) (hV : gV M L S σ) (hk : gSC p l e R s m args below meth c Q G cells slots ly (mstepI ly d M i L S σ (.ifCond .ge off) a b k0 sw)) : gWS p l e R s m args below meth c Q G cells slots ly M i L S σ := by
  obtain ⟨hx, hb, hml, hown, hts, hrt, hlk, hnm, hE⟩ := F
  simp only [okI, Bool.and_eq_true, decide_eq_true_eq] at hok
  obtain ⟨⟨h1, h2⟩, h3⟩ := hok
  have hpc : (prg M i).1 = pc := by rw [hp]
  simp only [mstepI, micond] at hk
  split at hk
  · rename_i x S'
    have hx1 : vI x := vkv_hd hV.2.1
    have hy1 : vI 0 := vI_0
    have L1 := i32_le hy1 hx1
    intro H locs ls hw hs hl
    rw [hpc]
    refine lv_if_ge hx hb (xdec_eq h1) (xtg_eq h3) (fun h => ?_) (fun h => ?_)
    · exact hk.1 (decide_eq_true (L1.mp h)) ⟨hV.1, vkv_tl hV.2.1, hV.2.2.1, hV.2.2.2⟩ H locs ls hw hs hl
    · have K := hk.2 (decide_eq_false (fun z => h (L1.mpr z))) ⟨hV.1, vkv_tl hV.2.1, hV.2.2.1, hV.2.2.2⟩ H locs ls hw hs hl
      rw [xnx_eq h2] at K
      exact K
  · exact hk.elim
theorem st_ifCond_gt (off : Int) (hp : prg M i = (pc, .ifCond .gt off, a, b, k0, sw)) (hok : okI M i pc (.ifCond .gt off) a b k0 sw = true) (F : gCF G p s m args meth c M) (hV : gV M L S σ) (hk : gSC p l e R s m args below meth c Q G cells slots ly (mstepI ly d M i L S σ (.ifCond .gt off) a b k0 sw)) : gWS p l e R s m args below meth c Q G cells slots ly M i L S σ := by
  obtain ⟨hx, hb, hml, hown, hts, hrt, hlk, hnm, hE⟩ := F
  simp only [okI, Bool.and_eq_true, decide_eq_true_eq] at hok
  obtain ⟨⟨h1, h2⟩, h3⟩ := hok
  have hpc : (prg M i).1 = pc := by rw [hp]
  simp only [mstepI, micond] at hk
  split at hk
  · rename_i x S'
    have hx1 : vI x := vkv_hd hV.2.1
    have hy1 : vI 0 := vI_0
    have L1 := i32_lt hy1 hx1
    intro H locs ls hw hs hl
    rw [hpc]
    refine lv_if_gt hx hb (xdec_eq h1) (xtg_eq h3) (fun h => ?_) (fun h => ?_)
    · exact hk.1 (decide_eq_true (L1.mp h)) ⟨hV.1, vkv_tl hV.2.1, hV.2.2.1, hV.2.2.2⟩ H locs ls hw hs hl
    · have K := hk.2 (decide_eq_false (fun z => h (L1.mpr z))) ⟨hV.1, vkv_tl hV.2.1, hV.2.2.1, hV.2.2.2⟩ H locs ls hw hs hl
      rw [xnx_eq h2] at K
      exact K
  · exact hk.elim
theorem st_ifCond_le (off : Int) (hp : prg M i = (pc, .ifCond .le off, a, b, k0, sw)) (hok : okI M i pc (.ifCond .le off) a b k0 sw = true) (F : gCF G p s m args meth c M) (hV : gV M L S σ) (hk : gSC p l e R s m args below meth c Q G cells slots ly (mstepI ly d M i L S σ (.ifCond .le off) a b k0 sw)) : gWS p l e R s m args below meth c Q G cells slots ly M i L S σ := by
  obtain ⟨hx, hb, hml, hown, hts, hrt, hlk, hnm, hE⟩ := F
  simp only [okI, Bool.and_eq_true, decide_eq_true_eq] at hok
  obtain ⟨⟨h1, h2⟩, h3⟩ := hok
  have hpc : (prg M i).1 = pc := by rw [hp]
  simp only [mstepI, micond] at hk
  split at hk
  · rename_i x S'
    have hx1 : vI x := vkv_hd hV.2.1
    have hy1 : vI 0 := vI_0
    have L1 := i32_le hx1 hy1
    intro H locs ls hw hs hl
    rw [hpc]
    refine lv_if_le hx hb (xdec_eq h1) (xtg_eq h3) (fun h => ?_) (fun h => ?_)
    · exact hk.1 (decide_eq_true (L1.mp h)) ⟨hV.1, vkv_tl hV.2.1, hV.2.2.1, hV.2.2.2⟩ H locs ls hw hs hl
    · have K := hk.2 (decide_eq_false (fun z => h (L1.mpr z))) ⟨hV.1, vkv_tl hV.2.1, hV.2.2.1, hV.2.2.2⟩ H locs ls hw hs hl
      rw [xnx_eq h2] at K
      exact K
  · exact hk.elim
theorem st_if_icmp_eq (off : Int) (hp : prg M i = (pc, .if_icmp .eq off, a, b, k0, sw)) (hok : okI M i pc (.if_icmp .eq off) a b k0 sw = true) (F : gCF G p s m args meth c M) (hV : gV M L S σ) (hk : gSC p l e R s m args below meth c Q G cells slots ly (mstepI ly d M i L S σ (.if_icmp .eq off) a b k0 sw)) : gWS p l e R s m args below meth c Q G cells slots ly M i L S σ := by
  obtain ⟨hx, hb, hml, hown, hts, hrt, hlk, hnm, hE⟩ := F
  simp only [okI, Bool.and_eq_true, decide_eq_true_eq] at hok
  obtain ⟨⟨h1, h2⟩, h3⟩ := hok
  have hpc : (prg M i).1 = pc := by rw [hp]
  simp only [mstepI, micond] at hk
  split at hk
  · rename_i y x S'
    have hx1 : vI x := vkv_hd (vkv_tl hV.2.1)
    have hy1 : vI y := vkv_hd hV.2.1
    have L1 := i32_eq hx1 hy1
    intro H locs ls hw hs hl
    rw [hpc]
    refine lv_icmp_eq hx hb (xdec_eq h1) (xtg_eq h3) (fun h => ?_) (fun h => ?_)
    · exact hk.1 (decide_eq_true (L1.mp h)) ⟨hV.1, vkv_tl (vkv_tl hV.2.1), hV.2.2.1, hV.2.2.2⟩ H locs ls hw hs hl
    · have K := hk.2 (decide_eq_false (fun z => h (L1.mpr z))) ⟨hV.1, vkv_tl (vkv_tl hV.2.1), hV.2.2.1, hV.2.2.2⟩ H locs ls hw hs hl
      rw [xnx_eq h2] at K
      exact K
  · exact hk.elim
theorem st_if_icmp_ne (off : Int) (hp : prg M i = (pc, .if_icmp .ne off, a, b, k0, sw)) (hok : okI M i pc (.if_icmp .ne off) a b k0 sw = true) (F : gCF G p s m args meth c M) (hV : gV M L S σ) (hk : gSC p l e R s m args below meth c Q G cells slots ly (mstepI ly d M i L S σ (.if_icmp .ne off) a b k0 sw)) : gWS p l e R s m args below meth c Q G cells slots ly M i L S σ := by
  obtain ⟨hx, hb, hml, hown, hts, hrt, hlk, hnm, hE⟩ := F
  simp only [okI, Bool.and_eq_true, decide_eq_true_eq] at hok
  obtain ⟨⟨h1, h2⟩, h3⟩ := hok
  have hpc : (prg M i).1 = pc := by rw [hp]
  simp only [mstepI, micond] at hk
  split at hk
  · rename_i y x S'
    have hx1 : vI x := vkv_hd (vkv_tl hV.2.1)
    have hy1 : vI y := vkv_hd hV.2.1
    have L1 := i32_eq hx1 hy1
    intro H locs ls hw hs hl
    rw [hpc]
    refine lv_icmp_ne hx hb (xdec_eq h1) (xtg_eq h3) (fun h => ?_) (fun h => ?_)
    · exact hk.1 (decide_eq_true (fun z => h (L1.mpr z))) ⟨hV.1, vkv_tl (vkv_tl hV.2.1), hV.2.2.1, hV.2.2.2⟩ H locs ls hw hs hl
    · have K := hk.2 (decide_eq_false (fun z => z (L1.mp h))) ⟨hV.1, vkv_tl (vkv_tl hV.2.1), hV.2.2.1, hV.2.2.2⟩ H locs ls hw hs hl
      rw [xnx_eq h2] at K
      exact K
  · exact hk.elim
theorem st_if_icmp_lt (off : Int) (hp : prg M i = (pc, .if_icmp .lt off, a, b, k0, sw)) (hok : okI M i pc (.if_icmp .lt off) a b k0 sw = true) (F : gCF G p s m args meth c M) (hV : gV M L S σ) (hk : gSC p l e R s m args below meth c Q G cells slots ly (mstepI ly d M i L S σ (.if_icmp .lt off) a b k0 sw)) : gWS p l e R s m args below meth c Q G cells slots ly M i L S σ := by
  obtain ⟨hx, hb, hml, hown, hts, hrt, hlk, hnm, hE⟩ := F
  simp only [okI, Bool.and_eq_true, decide_eq_true_eq] at hok
  obtain ⟨⟨h1, h2⟩, h3⟩ := hok
  have hpc : (prg M i).1 = pc := by rw [hp]
  simp only [mstepI, micond] at hk
  split at hk
  · rename_i y x S'
    have hx1 : vI x := vkv_hd (vkv_tl hV.2.1)
    have hy1 : vI y := vkv_hd hV.2.1
    have L1 := i32_lt hx1 hy1
    intro H locs ls hw hs hl
    rw [hpc]
    refine lv_icmp_lt hx hb (xdec_eq h1) (xtg_eq h3) (fun h => ?_) (fun h => ?_)
    · exact hk.1 (decide_eq_true (L1.mp h)) ⟨hV.1, vkv_tl (vkv_tl hV.2.1), hV.2.2.1, hV.2.2.2⟩ H locs ls hw hs hl
    · have K := hk.2 (decide_eq_false (fun z => h (L1.mpr z))) ⟨hV.1, vkv_tl (vkv_tl hV.2.1), hV.2.2.1, hV.2.2.2⟩ H locs ls hw hs hl
      rw [xnx_eq h2] at K
      exact K
  · exact hk.elim
theorem st_if_icmp_ge (off : Int) (hp : prg M i = (pc, .if_icmp .ge off, a, b, k0, sw)) (hok : okI M i pc (.if_icmp .ge off) a b k0 sw = true) (F : gCF G p s m args meth c M) (hV : gV M L S σ) (hk : gSC p l e R s m args below meth c Q G cells slots ly (mstepI ly d M i L S σ (.if_icmp .ge off) a b k0 sw)) : gWS p l e R s m args below meth c Q G cells slots ly M i L S σ := by
  obtain ⟨hx, hb, hml, hown, hts, hrt, hlk, hnm, hE⟩ := F
  simp only [okI, Bool.and_eq_true, decide_eq_true_eq] at hok
  obtain ⟨⟨h1, h2⟩, h3⟩ := hok
  have hpc : (prg M i).1 = pc := by rw [hp]
  simp only [mstepI, micond] at hk
  split at hk
  · rename_i y x S'
    have hx1 : vI x := vkv_hd (vkv_tl hV.2.1)
    have hy1 : vI y := vkv_hd hV.2.1
    have L1 := i32_le hy1 hx1
    intro H locs ls hw hs hl
    rw [hpc]
    refine lv_icmp_ge hx hb (xdec_eq h1) (xtg_eq h3) (fun h => ?_) (fun h => ?_)
    · exact hk.1 (decide_eq_true (L1.mp h)) ⟨hV.1, vkv_tl (vkv_tl hV.2.1), hV.2.2.1, hV.2.2.2⟩ H locs ls hw hs hl
    · have K := hk.2 (decide_eq_false (fun z => h (L1.mpr z))) ⟨hV.1, vkv_tl (vkv_tl hV.2.1), hV.2.2.1, hV.2.2.2⟩ H locs ls hw hs hl
      rw [xnx_eq h2] at K
      exact K
  · exact hk.elim
theorem st_if_icmp_gt (off : Int) (hp : prg M i = (pc, .if_icmp .gt off, a, b, k0, sw)) (hok : okI M i pc (.if_icmp .gt off) a b k0 sw = true) (F : gCF G p s m args meth c M) (hV : gV M L S σ) (hk : gSC p l e R s m args below meth c Q G cells slots ly (mstepI ly d M i L S σ (.if_icmp .gt off) a b k0 sw)) : gWS p l e R s m args below meth c Q G cells slots ly M i L S σ := by
  obtain ⟨hx, hb, hml, hown, hts, hrt, hlk, hnm, hE⟩ := F
  simp only [okI, Bool.and_eq_true, decide_eq_true_eq] at hok
  obtain ⟨⟨h1, h2⟩, h3⟩ := hok
  have hpc : (prg M i).1 = pc := by rw [hp]
  simp only [mstepI, micond] at hk
  split at hk
  · rename_i y x S'
    have hx1 : vI x := vkv_hd (vkv_tl hV.2.1)
    have hy1 : vI y := vkv_hd hV.2.1
    have L1 := i32_lt hy1 hx1
    intro H locs ls hw hs hl
    rw [hpc]
    refine lv_icmp_gt hx hb (xdec_eq h1) (xtg_eq h3) (fun h => ?_) (fun h => ?_)
    · exact hk.1 (decide_eq_true (L1.mp h)) ⟨hV.1, vkv_tl (vkv_tl hV.2.1), hV.2.2.1, hV.2.2.2⟩ H locs ls hw hs hl
    · have K := hk.2 (decide_eq_false (fun z => h (L1.mpr z))) ⟨hV.1, vkv_tl (vkv_tl hV.2.1), hV.2.2.1, hV.2.2.2⟩ H locs ls hw hs hl
      rw [xnx_eq h2] at K
      exact K
  · exact hk.elim
theorem st_if_icmp_le (off : Int) (hp : prg M i = (pc, .if_icmp .le off, a, b, k0, sw)) (hok : okI M i pc (.if_icmp .le off) a b k0 sw = true) (F : gCF G p s m args meth c M) (hV : gV M L S σ) (hk : gSC p l e R s m args below meth c Q G cells slots ly (mstepI ly d M i L S σ (.if_icmp .le off) a b k0 sw)) : gWS p l e R s m args below meth c Q G cells slots ly M i L S σ := by
  obtain ⟨hx, hb, hml, hown, hts, hrt, hlk, hnm, hE⟩ := F
  simp only [okI, Bool.and_eq_true, decide_eq_true_eq] at hok
  obtain ⟨⟨h1, h2⟩, h3⟩ := hok
  have hpc : (prg M i).1 = pc := by rw [hp]
  simp only [mstepI, micond] at hk
  split at hk
  · rename_i y x S'
    have hx1 : vI x := vkv_hd (vkv_tl hV.2.1)
    have hy1 : vI y := vkv_hd hV.2.1
    have L1 := i32_le hx1 hy1
    intro H locs ls hw hs hl
    rw [hpc]
    refine lv_icmp_le hx hb (xdec_eq h1) (xtg_eq h3) (fun h => ?_) (fun h => ?_)
    · exact hk.1 (decide_eq_true (L1.mp h)) ⟨hV.1, vkv_tl (vkv_tl hV.2.1), hV.2.2.1, hV.2.2.2⟩ H locs ls hw hs hl
    · have K := hk.2 (decide_eq_false (fun z => h (L1.mpr z))) ⟨hV.1, vkv_tl (vkv_tl hV.2.1), hV.2.2.1, hV.2.2.2⟩ H locs ls hw hs hl
      rw [xnx_eq h2] at K
      exact K
  · exact hk.elim
theorem st_goto (off : Int) (hp : prg M i = (pc, .goto off, a, b, k0, sw)) (hok : okI M i pc (.goto off) a b k0 sw = true) (F : gCF G p s m args meth c M) (hV : gV M L S σ) (hk : gSC p l e R s m args below meth c Q G cells slots ly (mstepI ly d M i L S σ (.goto off) a b k0 sw)) : gWS p l e R s m args below meth c Q G cells slots ly M i L S σ := by
  obtain ⟨hx, hb, hml, hown, hts, hrt, hlk, hnm, hE⟩ := F
  simp only [okI, Bool.and_eq_true, decide_eq_true_eq] at hok
  obtain ⟨h1, h2⟩ := hok
  have hpc : (prg M i).1 = pc := by rw [hp]
  simp only [mstepI] at hk
  intro H locs ls hw hs hl
  rw [hpc]
  refine lv_goto hx hb (xdec_eq h1) (xtg_eq h2) ?_
  exact hk ⟨hV.1, hV.2.1, hV.2.2.1, hV.2.2.2⟩ H locs ls hw hs hl
end ST
