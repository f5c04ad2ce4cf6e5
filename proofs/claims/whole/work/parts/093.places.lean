section SD
theorem xnx_lt {M i pc n : Nat} (h : xnx M i pc n = true) : i + 1 < mlen M := by
  simp only [xnx, Bool.and_eq_true] at h; exact blt_lt h.2
theorem xtg_lt {M a pc : Nat} {off : Int} (h : xtg M a pc off = true) : a < mlen M := by
  simp only [xtg, Bool.and_eq_true] at h; exact blt_lt h.2
def gIn (d M : Nat) (x : mmX) : Prop := x.1 = d ∧ x.2.1 = M ∧ x.2.2.1 < mlen M
/-- the states behind a step stand in the same method, at a place of it -/
def gNX (d M : Nat) (r : mmS) : Prop := match r with
  | .inl _ => True
  | .inr (.inl _) => True
  | .inr (.inr (.inl x)) => gIn d M x
  | .inr (.inr (.inr (.inl (_, x, y)))) => gIn d M x ∧ gIn d M y
  | .inr (.inr (.inr (.inr (.inl (_, x))))) => gIn d M x
  | .inr (.inr (.inr (.inr (.inr (.inl (_, k)))))) => ∀ y, gIn d M (k y)
  | .inr (.inr (.inr (.inr (.inr (.inr (_, l2, z)))))) => (∀ q ∈ l2, gIn d M q.2) ∧ gIn d M z
variable {d M i pc a b : Nat} {L S : List mmV} {σ : mmSt} {k0 : Int} {sw : List (Int × Nat)} {ly : mmL}

theorem cond_ind {P : mmS → Prop} {x y : mmS} {c : Bool} (h1 : P x) (h2 : P y) : P (bif c then x else y) := by cases c <;> assumption
theorem nx_mbin (f : Int → Int → Int) {g : List mmV → mmS} (h : ∀ z, gNX d M (g z)) : gNX d M (mbin f S g) := by
  unfold mbin; split
  · exact h _
  · trivial
theorem nx_mun (f : Int → Int) {g : List mmV → mmS} (h : ∀ z, gNX d M (g z)) : gNX d M (mun f S g) := by
  unfold mun; split
  · exact h _
  · trivial
theorem nx_mbinL (f : Int → Int → Int) {g : List mmV → mmS} (h : ∀ z, gNX d M (g z)) : gNX d M (mbinL f S g) := by
  unfold mbinL; split
  · exact h _
  · trivial
theorem nx_mldi (k : Nat) {g : List mmV → mmS} (h : ∀ z, gNX d M (g z)) : gNX d M (mldi L S k g) := by
  unfold mldi; split
  · exact h _
  · trivial
theorem nx_mldl (k : Nat) {g : List mmV → mmS} (h : ∀ z, gNX d M (g z)) : gNX d M (mldl L S k g) := by
  unfold mldl; split
  · exact h _
  · trivial
theorem nx_mlda (k : Nat) {g : List mmV → mmS} (h : ∀ z, gNX d M (g z)) : gNX d M (mlda L S k g) := by
  unfold mlda; split
  · exact h _
  · trivial
theorem nx_msti (k : Nat) {g : List mmV → List mmV → mmS} (h : ∀ y z, gNX d M (g y z)) : gNX d M (msti L S k g) := by
  unfold msti; split
  · exact cond_ind (h _ _) trivial
  · trivial
theorem nx_mstl (k : Nat) {g : List mmV → List mmV → mmS} (h : ∀ y z, gNX d M (g y z)) : gNX d M (mstl L S k g) := by
  unfold mstl; split
  · exact cond_ind (h _ _) trivial
  · trivial
theorem nx_msta (k : Nat) {g : List mmV → List mmV → mmS} (h : ∀ y z, gNX d M (g y z)) : gNX d M (msta L S k g) := by
  unfold msta; split
  · exact cond_ind (h _ _) trivial
  · trivial
theorem nx_mgetf (ci k : Nat) {g : List mmV → mmS} (h : ∀ z, gNX d M (g z)) : gNX d M (mgetf ly ci k S σ g) := by
  unfold mgetf; split
  · refine cond_ind ?_ trivial
    split
    · refine cond_ind ?_ trivial
      split
      · exact h _
      · exact h _
      · trivial
    · trivial
  · trivial
theorem nx_mputf (ci k : Nat) {g : List mmV → mmSt → mmS} (h : ∀ y z, gNX d M (g y z)) : gNX d M (mputf ly ci k S σ g) := by
  unfold mputf; split
  · refine cond_ind ?_ trivial
    split
    · refine cond_ind ?_ trivial
      split
      · exact h _ _
      · trivial
    · trivial
  · trivial
theorem nx_mald (bo : Bool) {g : List mmV → mmX} (h : ∀ z, gIn d M (g z)) : gNX d M (mald ly bo S σ g) := by
  unfold mald; split
  · refine cond_ind ?_ trivial
    split
    · exact cond_ind (h _) trivial
    · trivial
  · trivial
theorem nx_mast (bo : Bool) {g : List mmV → mmSt → mmX} (h : ∀ y z, gIn d M (g y z)) : gNX d M (mast ly bo S σ g) := by
  unfold mast; split
  · refine cond_ind ?_ trivial
    split
    · exact cond_ind (h _ _) trivial
    · trivial
  · trivial
theorem nx_maald {g : List mmV → mmS} (h : ∀ z, gNX d M (g z)) : gNX d M (maald ly S g) := by
  unfold maald; split
  · refine cond_ind ?_ trivial
    split
    · split
      · exact h _
      · trivial
    · trivial
  · trivial
theorem nx_malen {g : List mmV → mmS} (h : ∀ z, gNX d M (g z)) : gNX d M (malen ly S g) := by
  unfold malen; split
  · refine cond_ind ?_ trivial
    split
    · exact h _
    · trivial
  · trivial
theorem nx_mcopy {g : List mmV → mmSt → mmX} (h : ∀ y z, gIn d M (g y z)) : gNX d M (mcopy ly S σ g) := by
  unfold mcopy; split
  · refine cond_ind ?_ trivial
    split
    · exact h _ _
    · trivial
  · trivial
theorem nx_mcall (virt : Bool) (h : i + 1 < mlen M) : gNX d M (mcall ly virt d M i L S σ a b) := by
  unfold mcall; split
  · trivial
  · exact cond_ind (fun y => ⟨rfl, rfl, h⟩) trivial
theorem nx_ok (hok : okE M i = true) : gNX d M (sstep ly (d, M, i, L, S, σ)) := by
  rcases hp : prg M i with ⟨pc, ins, a, b, k0, sw⟩
  have hok : okI M i pc ins a b k0 sw = true := by unfold okE at hok; rw [hp] at hok; exact hok
  have hgo : sstep ly (d, M, i, L, S, σ) = mstepI ly d M i L S σ ins a b k0 sw := by unfold sstep; simp only [hp]
  rw [hgo]
  cases ins with
  | aload_n k =>
    simp only [okI, Bool.and_eq_true] at hok
    obtain ⟨h1, h2⟩ := hok
    have h2 := xnx_lt h2
    simp only [mstepI]
    refine nx_mlda _ (fun _ => ?_)
    exact ⟨rfl, rfl, h2⟩
  | aload k =>
    simp only [okI, Bool.and_eq_true] at hok
    obtain ⟨h1, h2⟩ := hok
    have h2 := xnx_lt h2
    simp only [mstepI]
    refine nx_mlda _ (fun _ => ?_)
    exact ⟨rfl, rfl, h2⟩
  | iload_n k =>
    simp only [okI, Bool.and_eq_true] at hok
    obtain ⟨h1, h2⟩ := hok
    have h2 := xnx_lt h2
    simp only [mstepI]
    refine nx_mldi _ (fun _ => ?_)
    exact ⟨rfl, rfl, h2⟩
  | iload k =>
    simp only [okI, Bool.and_eq_true] at hok
    obtain ⟨h1, h2⟩ := hok
    have h2 := xnx_lt h2
    simp only [mstepI]
    refine nx_mldi _ (fun _ => ?_)
    exact ⟨rfl, rfl, h2⟩
  | lload_n k =>
    simp only [okI, Bool.and_eq_true] at hok
    obtain ⟨h1, h2⟩ := hok
    have h2 := xnx_lt h2
    simp only [mstepI]
    refine nx_mldl _ (fun _ => ?_)
    exact ⟨rfl, rfl, h2⟩
  | lload k =>
    simp only [okI, Bool.and_eq_true] at hok
    obtain ⟨h1, h2⟩ := hok
    have h2 := xnx_lt h2
    simp only [mstepI]
    refine nx_mldl _ (fun _ => ?_)
    exact ⟨rfl, rfl, h2⟩
  | istore_n k =>
    simp only [okI, Bool.and_eq_true] at hok
    obtain ⟨h1, h2⟩ := hok
    have h2 := xnx_lt h2
    simp only [mstepI]
    refine nx_msti _ (fun _ _ => ?_)
    exact ⟨rfl, rfl, h2⟩
  | istore k =>
    simp only [okI, Bool.and_eq_true] at hok
    obtain ⟨h1, h2⟩ := hok
    have h2 := xnx_lt h2
    simp only [mstepI]
    refine nx_msti _ (fun _ _ => ?_)
    exact ⟨rfl, rfl, h2⟩
  | lstore_n k =>
    simp only [okI, Bool.and_eq_true] at hok
    obtain ⟨h1, h2⟩ := hok
    have h2 := xnx_lt h2
    simp only [mstepI]
    refine nx_mstl _ (fun _ _ => ?_)
    exact ⟨rfl, rfl, h2⟩
  | lstore k =>
    simp only [okI, Bool.and_eq_true] at hok
    obtain ⟨h1, h2⟩ := hok
    have h2 := xnx_lt h2
    simp only [mstepI]
    refine nx_mstl _ (fun _ _ => ?_)
    exact ⟨rfl, rfl, h2⟩
  | astore_n k =>
    simp only [okI, Bool.and_eq_true] at hok
    obtain ⟨h1, h2⟩ := hok
    have h2 := xnx_lt h2
    simp only [mstepI]
    refine nx_msta _ (fun _ _ => ?_)
    exact ⟨rfl, rfl, h2⟩
  | iconst n =>
    simp only [okI, Bool.and_eq_true] at hok
    obtain ⟨⟨⟨h1, h2⟩, h3⟩, h4⟩ := hok
    have h2 := xnx_lt h2
    simp only [mstepI]
    exact ⟨rfl, rfl, h2⟩
  | bipush n =>
    simp only [okI, Bool.and_eq_true] at hok
    obtain ⟨⟨⟨h1, h2⟩, h3⟩, h4⟩ := hok
    have h2 := xnx_lt h2
    simp only [mstepI]
    exact ⟨rfl, rfl, h2⟩
  | sipush n =>
    simp only [okI, Bool.and_eq_true] at hok
    obtain ⟨⟨⟨h1, h2⟩, h3⟩, h4⟩ := hok
    have h2 := xnx_lt h2
    simp only [mstepI]
    exact ⟨rfl, rfl, h2⟩
  | ldc k =>
    simp only [okI, Bool.and_eq_true] at hok
    obtain ⟨⟨⟨h1, h2⟩, h3⟩, h4⟩ := hok
    have h2 := xnx_lt h2
    simp only [mstepI]
    exact ⟨rfl, rfl, h2⟩
  | ldc_w k =>
    simp only [okI, Bool.and_eq_true] at hok
    obtain ⟨⟨⟨h1, h2⟩, h3⟩, h4⟩ := hok
    have h2 := xnx_lt h2
    simp only [mstepI]
    exact ⟨rfl, rfl, h2⟩
  | ldc2_w k =>
    simp only [okI, Bool.and_eq_true] at hok
    obtain ⟨⟨⟨h1, h2⟩, h3⟩, h4⟩ := hok
    have h2 := xnx_lt h2
    simp only [mstepI]
    exact ⟨rfl, rfl, h2⟩
  | lconst n =>
    simp only [okI, Bool.and_eq_true] at hok
    obtain ⟨⟨⟨h1, h2⟩, h3⟩, h4⟩ := hok
    have h2 := xnx_lt h2
    simp only [mstepI]
    exact ⟨rfl, rfl, h2⟩
  | iadd =>
    simp only [okI, Bool.and_eq_true] at hok
    obtain ⟨h1, h2⟩ := hok
    have h2 := xnx_lt h2
    simp only [mstepI]
    refine nx_mbin _ (fun _ => ?_)
    exact ⟨rfl, rfl, h2⟩
  | isub =>
    simp only [okI, Bool.and_eq_true] at hok
    obtain ⟨h1, h2⟩ := hok
    have h2 := xnx_lt h2
    simp only [mstepI]
    refine nx_mbin _ (fun _ => ?_)
    exact ⟨rfl, rfl, h2⟩
  | imul =>
    simp only [okI, Bool.and_eq_true] at hok
    obtain ⟨h1, h2⟩ := hok
    have h2 := xnx_lt h2
    simp only [mstepI]
    refine nx_mbin _ (fun _ => ?_)
    exact ⟨rfl, rfl, h2⟩
  | iand =>
    simp only [okI, Bool.and_eq_true] at hok
    obtain ⟨h1, h2⟩ := hok
    have h2 := xnx_lt h2
    simp only [mstepI]
    refine nx_mbin _ (fun _ => ?_)
    exact ⟨rfl, rfl, h2⟩
  | ior =>
    simp only [okI, Bool.and_eq_true] at hok
    obtain ⟨h1, h2⟩ := hok
    have h2 := xnx_lt h2
    simp only [mstepI]
    refine nx_mbin _ (fun _ => ?_)
    exact ⟨rfl, rfl, h2⟩
  | ixor =>
    simp only [okI, Bool.and_eq_true] at hok
    obtain ⟨h1, h2⟩ := hok
    have h2 := xnx_lt h2
    simp only [mstepI]
    refine nx_mbin _ (fun _ => ?_)
    exact ⟨rfl, rfl, h2⟩
  | ishl =>
    simp only [okI, Bool.and_eq_true] at hok
    obtain ⟨h1, h2⟩ := hok
    have h2 := xnx_lt h2
    simp only [mstepI]
    refine nx_mbin _ (fun _ => ?_)
    exact ⟨rfl, rfl, h2⟩
  | ishr =>
    simp only [okI, Bool.and_eq_true] at hok
    obtain ⟨h1, h2⟩ := hok
    have h2 := xnx_lt h2
    simp only [mstepI]
    refine nx_mbin _ (fun _ => ?_)
    exact ⟨rfl, rfl, h2⟩
  | iushr =>
    simp only [okI, Bool.and_eq_true] at hok
    obtain ⟨h1, h2⟩ := hok
    have h2 := xnx_lt h2
    simp only [mstepI]
    refine nx_mbin _ (fun _ => ?_)
    exact ⟨rfl, rfl, h2⟩
  | ineg =>
    simp only [okI, Bool.and_eq_true] at hok
    obtain ⟨h1, h2⟩ := hok
    have h2 := xnx_lt h2
    simp only [mstepI]
    refine nx_mun _ (fun _ => ?_)
    exact ⟨rfl, rfl, h2⟩
  | i2b =>
    simp only [okI, Bool.and_eq_true] at hok
    obtain ⟨h1, h2⟩ := hok
    have h2 := xnx_lt h2
    simp only [mstepI]
    refine nx_mun _ (fun _ => ?_)
    exact ⟨rfl, rfl, h2⟩
  | i2s =>
    simp only [okI, Bool.and_eq_true] at hok
    obtain ⟨h1, h2⟩ := hok
    have h2 := xnx_lt h2
    simp only [mstepI]
    refine nx_mun _ (fun _ => ?_)
    exact ⟨rfl, rfl, h2⟩
  | ladd =>
    simp only [okI, Bool.and_eq_true] at hok
    obtain ⟨h1, h2⟩ := hok
    have h2 := xnx_lt h2
    simp only [mstepI]
    refine nx_mbinL _ (fun _ => ?_)
    exact ⟨rfl, rfl, h2⟩
  | lsub =>
    simp only [okI, Bool.and_eq_true] at hok
    obtain ⟨h1, h2⟩ := hok
    have h2 := xnx_lt h2
    simp only [mstepI]
    refine nx_mbinL _ (fun _ => ?_)
    exact ⟨rfl, rfl, h2⟩
  | lmul =>
    simp only [okI, Bool.and_eq_true] at hok
    obtain ⟨h1, h2⟩ := hok
    have h2 := xnx_lt h2
    simp only [mstepI]
    refine nx_mbinL _ (fun _ => ?_)
    exact ⟨rfl, rfl, h2⟩
  | ldiv =>
    simp only [okI, Bool.and_eq_true] at hok
    obtain ⟨h1, h2⟩ := hok
    have h2 := xnx_lt h2
    simp only [mstepI]
    split
    · exact ⟨rfl, rfl, h2⟩
    · trivial
  | lrem =>
    simp only [okI, Bool.and_eq_true] at hok
    obtain ⟨h1, h2⟩ := hok
    have h2 := xnx_lt h2
    simp only [mstepI]
    split
    · exact ⟨rfl, rfl, h2⟩
    · trivial
  | lcmp =>
    simp only [okI, Bool.and_eq_true] at hok
    obtain ⟨h1, h2⟩ := hok
    have h2 := xnx_lt h2
    simp only [mstepI]
    split
    · exact ⟨rfl, rfl, h2⟩
    · trivial
  | i2l =>
    simp only [okI, Bool.and_eq_true] at hok
    obtain ⟨h1, h2⟩ := hok
    have h2 := xnx_lt h2
    simp only [mstepI]
    split
    · exact ⟨rfl, rfl, h2⟩
    · trivial
  | l2i =>
    simp only [okI, Bool.and_eq_true] at hok
    obtain ⟨h1, h2⟩ := hok
    have h2 := xnx_lt h2
    simp only [mstepI]
    split
    · exact ⟨rfl, rfl, h2⟩
    · trivial
  | dup =>
    simp only [okI, Bool.and_eq_true] at hok
    obtain ⟨h1, h2⟩ := hok
    have h2 := xnx_lt h2
    simp only [mstepI]
    split
    · exact ⟨rfl, rfl, h2⟩
    · exact ⟨rfl, rfl, h2⟩
    · trivial
  | dup2 =>
    simp only [okI, Bool.and_eq_true] at hok
    obtain ⟨h1, h2⟩ := hok
    have h2 := xnx_lt h2
    simp only [mstepI]
    split
    · exact ⟨rfl, rfl, h2⟩
    · trivial
  | iinc k n =>
    simp only [okI, Bool.and_eq_true] at hok
    obtain ⟨⟨⟨h1, h2⟩, h3⟩, h4⟩ := hok
    have h2 := xnx_lt h2
    simp only [mstepI]
    split
    · exact cond_ind (⟨rfl, rfl, h2⟩ : gIn d M (d, M, i + 1, _, _, _)) trivial
    · trivial
  | ifCond q off =>
    simp only [okI, Bool.and_eq_true] at hok
    obtain ⟨⟨h1, h2⟩, h3⟩ := hok
    have h2 := xnx_lt h2
    have h3 := xtg_lt h3
    simp only [mstepI]
    split
    · exact ⟨⟨rfl, rfl, h3⟩, ⟨rfl, rfl, h2⟩⟩
    · trivial
  | if_icmp q off =>
    simp only [okI, Bool.and_eq_true] at hok
    obtain ⟨⟨h1, h2⟩, h3⟩ := hok
    have h2 := xnx_lt h2
    have h3 := xtg_lt h3
    simp only [mstepI]
    split
    · exact ⟨⟨rfl, rfl, h3⟩, ⟨rfl, rfl, h2⟩⟩
    · trivial
  | goto off =>
    simp only [okI, Bool.and_eq_true] at hok
    exact ⟨rfl, rfl, xtg_lt hok.2⟩
  | tableswitch df lo hi offs =>
    simp only [okI, Bool.and_eq_true] at hok
    obtain ⟨⟨⟨⟨h1, h2⟩, h3⟩, h4⟩, h5⟩ := hok
    simp only [mstepI]
    split
    · refine ⟨fun q hq => ?_, rfl, rfl, xtg_lt h2⟩
      obtain ⟨r, hr, rfl⟩ := List.mem_map.mp hq
      obtain ⟨j, hj⟩ := List.getElem?_of_mem hr
      have h := List.all_eq_true.mp h5 j (List.mem_range.mpr (List.getElem?_eq_some_iff.mp hj).1)
      rw [hj] at h
      cases ho : offs[j]? with
      | none => rw [ho] at h; cases h
      | some off =>
        rw [ho] at h
        exact ⟨rfl, rfl, xtg_lt (bb h).2⟩
    · trivial
  | lookupswitch df ps =>
    simp only [okI, Bool.and_eq_true] at hok
    obtain ⟨⟨⟨⟨h1, h2⟩, h3⟩, h4⟩, h5⟩ := hok
    have h4 := of_decide_eq_true h4
    simp only [mstepI]
    split
    · refine ⟨fun q hq => ?_, rfl, rfl, xtg_lt h2⟩
      obtain ⟨r, hr, rfl⟩ := List.mem_map.mp hq
      obtain ⟨j, hj⟩ := List.getElem?_of_mem hr
      have hl : sw.length = ps.toList.length := by have := congrArg List.length h4; simpa using this
      have hjl : j < sw.length := (List.getElem?_eq_some_iff.mp hj).1
      obtain ⟨u, hu⟩ : ∃ u, ps.toList[j]? = some u := ⟨_, List.getElem?_eq_getElem (by omega)⟩
      have hz : (sw.zip ps.toList)[j]? = some (r, u) := List.getElem?_zip_eq_some.mpr ⟨hj, hu⟩
      have h := List.all_eq_true.mp h5 (r, u) (List.mem_of_getElem? hz)
      exact ⟨rfl, rfl, xtg_lt h⟩
    · trivial
  | getfield k =>
    simp only [okI, Bool.and_eq_true] at hok
    obtain ⟨⟨h1, h2⟩, h3⟩ := hok
    have h2 := xnx_lt h2
    simp only [mstepI]
    refine nx_mgetf _ _ (fun _ => ?_)
    exact ⟨rfl, rfl, h2⟩
  | putfield k =>
    simp only [okI, Bool.and_eq_true] at hok
    obtain ⟨⟨⟨⟨⟨h1, h2⟩, h3⟩, h5⟩, h6⟩, h7⟩ := hok
    have h2 := xnx_lt h2
    simp only [mstepI]
    refine cond_ind (nx_mputf _ _ (fun _ _ => ?_)) trivial
    exact ⟨rfl, rfl, h2⟩
  | getstatic k =>
    simp only [okI, Bool.and_eq_true] at hok
    obtain ⟨⟨⟨⟨h1, h2⟩, h3⟩, h4⟩, h5⟩ := hok
    have h2 := xnx_lt h2
    simp only [mstepI]
    exact ⟨rfl, rfl, h2⟩
  | iaload =>
    simp only [okI, Bool.and_eq_true] at hok
    obtain ⟨h1, h2⟩ := hok
    have h2 := xnx_lt h2
    simp only [mstepI]
    refine nx_mald false (fun _ => ?_)
    exact ⟨rfl, rfl, h2⟩
  | baload =>
    simp only [okI, Bool.and_eq_true] at hok
    obtain ⟨h1, h2⟩ := hok
    have h2 := xnx_lt h2
    simp only [mstepI]
    refine nx_mald true (fun _ => ?_)
    exact ⟨rfl, rfl, h2⟩
  | iastore =>
    simp only [okI, Bool.and_eq_true] at hok
    obtain ⟨h1, h2⟩ := hok
    have h2 := xnx_lt h2
    simp only [mstepI]
    refine nx_mast false (fun _ _ => ?_)
    exact ⟨rfl, rfl, h2⟩
  | bastore =>
    simp only [okI, Bool.and_eq_true] at hok
    obtain ⟨h1, h2⟩ := hok
    have h2 := xnx_lt h2
    simp only [mstepI]
    refine nx_mast true (fun _ _ => ?_)
    exact ⟨rfl, rfl, h2⟩
  | aaload =>
    simp only [okI, Bool.and_eq_true] at hok
    obtain ⟨h1, h2⟩ := hok
    have h2 := xnx_lt h2
    simp only [mstepI]
    refine nx_maald (fun _ => ⟨rfl, rfl, h2⟩)
  | arraylength =>
    simp only [okI, Bool.and_eq_true] at hok
    obtain ⟨h1, h2⟩ := hok
    have h2 := xnx_lt h2
    simp only [mstepI]
    refine nx_malen (fun _ => ⟨rfl, rfl, h2⟩)
  | invokevirtual k =>
    simp only [okI, Bool.and_eq_true] at hok
    obtain ⟨⟨⟨⟨⟨⟨⟨h1, h2⟩, -⟩, -⟩, -⟩, -⟩, -⟩, -⟩ := hok
    have h2 := xnx_lt h2
    simp only [mstepI]
    exact nx_mcall true h2
  | invokespecial k =>
    simp only [okI, Bool.and_eq_true] at hok
    obtain ⟨⟨h1, h2⟩, h3⟩ := hok
    have h2 := xnx_lt h2
    simp only [mstepI]
    refine cond_ind ?_ (nx_mcall true h2)
    split
    · exact cond_ind (⟨rfl, rfl, h2⟩ : gIn _ M (_, M, i + 1, _, _, _)) trivial
    · trivial
  | invokestatic k =>
    simp only [okI, Bool.and_eq_true] at hok
    obtain ⟨⟨h1, h2⟩, h3⟩ := hok
    have h2 := xnx_lt h2
    simp only [mstepI]
    refine cond_ind (cond_ind trivial (nx_mcopy (fun _ _ => ?_))) (cond_ind (cond_ind trivial (nx_mbin _ (fun _ => ?_))) (cond_ind (cond_ind trivial (nx_mbin _ (fun _ => ?_))) (nx_mcall false h2)))
    · exact ⟨rfl, rfl, h2⟩
    · exact ⟨rfl, rfl, h2⟩
    · exact ⟨rfl, rfl, h2⟩
  | ireturn =>
    simp only [mstepI]
    split
    · exact cond_ind trivial (cond_ind trivial trivial)
    · trivial
  | lreturn =>
    simp only [mstepI]
    split
    · exact cond_ind trivial trivial
    · trivial
  | return_ =>
    simp only [mstepI]
    split
    · exact cond_ind trivial trivial
    · trivial
  | _ => trivial
end SD
