section MN
variable {p : Program} {l : Launch} {e : Env} {R : Room} {s : State} {m : MethodId} {args : Array Value} {below : List Frame} {meth : Method} {c : Code} {Q : State → Prop} {G : mmG} {cells slots : Nat} {ly : mmL}
variable {d M i pc a b : Nat} {L S : List mmV} {σ : mmSt} {k0 : Int} {sw : List (Int × Nat)}
def isInv : Instr → Bool
  | .invokevirtual _ | .invokespecial _ | .invokestatic _ => true
  | _ => false
/-- no call -/
def gNC (r : mmS) : Prop := match r with
  | .inr (.inr (.inr (.inr (.inr (.inl _))))) => False
  | _ => True
theorem condP {P : mmS → Prop} {x y : mmS} {c : Bool} (h1 : P x) (h2 : P y) : P (bif c then x else y) := by cases c <;> assumption
theorem nc_mbin (f : Int → Int → Int) {g : List mmV → mmS} (h : ∀ z, gNC (g z)) : gNC (mbin f S g) := by
  unfold mbin; split
  · exact h _
  · trivial
theorem nc_mun (f : Int → Int) {g : List mmV → mmS} (h : ∀ z, gNC (g z)) : gNC (mun f S g) := by
  unfold mun; split
  · exact h _
  · trivial
theorem nc_mbinL (f : Int → Int → Int) {g : List mmV → mmS} (h : ∀ z, gNC (g z)) : gNC (mbinL f S g) := by
  unfold mbinL; split
  · exact h _
  · trivial
theorem nc_mldi (k : Nat) {g : List mmV → mmS} (h : ∀ z, gNC (g z)) : gNC (mldi L S k g) := by
  unfold mldi; split
  · exact h _
  · trivial
theorem nc_mldl (k : Nat) {g : List mmV → mmS} (h : ∀ z, gNC (g z)) : gNC (mldl L S k g) := by
  unfold mldl; split
  · exact h _
  · trivial
theorem nc_mlda (k : Nat) {g : List mmV → mmS} (h : ∀ z, gNC (g z)) : gNC (mlda L S k g) := by
  unfold mlda; split
  · exact h _
  · trivial
theorem nc_msti (k : Nat) {g : List mmV → List mmV → mmS} (h : ∀ y z, gNC (g y z)) : gNC (msti L S k g) := by
  unfold msti; split
  · exact condP (h _ _) trivial
  · trivial
theorem nc_mstl (k : Nat) {g : List mmV → List mmV → mmS} (h : ∀ y z, gNC (g y z)) : gNC (mstl L S k g) := by
  unfold mstl; split
  · exact condP (h _ _) trivial
  · trivial
theorem nc_msta (k : Nat) {g : List mmV → List mmV → mmS} (h : ∀ y z, gNC (g y z)) : gNC (msta L S k g) := by
  unfold msta; split
  · exact condP (h _ _) trivial
  · trivial
theorem nc_mgetf (ci k : Nat) {g : List mmV → mmS} (h : ∀ z, gNC (g z)) : gNC (mgetf ly ci k S σ g) := by
  unfold mgetf; split
  · refine condP ?_ trivial
    split
    · refine condP ?_ trivial
      split
      · exact h _
      · exact h _
      · trivial
    · trivial
  · trivial
theorem nc_mputf (ci k : Nat) {g : List mmV → mmSt → mmS} (h : ∀ y z, gNC (g y z)) : gNC (mputf ly ci k S σ g) := by
  unfold mputf; split
  · refine condP ?_ trivial
    split
    · refine condP ?_ trivial
      split
      · exact h _ _
      · trivial
    · trivial
  · trivial
theorem nc_mald (bo : Bool) {g : List mmV → mmX} : gNC (mald ly bo S σ g) := by
  unfold mald; split
  · refine condP ?_ trivial
    split
    · exact condP trivial trivial
    · trivial
  · trivial
theorem nc_mast (bo : Bool) {g : List mmV → mmSt → mmX} : gNC (mast ly bo S σ g) := by
  unfold mast; split
  · refine condP ?_ trivial
    split
    · exact condP trivial trivial
    · trivial
  · trivial
theorem nc_maald {g : List mmV → mmS} (h : ∀ z, gNC (g z)) : gNC (maald ly S g) := by
  unfold maald; split
  · refine condP ?_ trivial
    split
    · split
      · exact h _
      · trivial
    · trivial
  · trivial
theorem nc_malen {g : List mmV → mmS} (h : ∀ z, gNC (g z)) : gNC (malen ly S g) := by
  unfold malen; split
  · refine condP ?_ trivial
    split
    · exact h _
    · trivial
  · trivial
theorem nc_mcopy {g : List mmV → mmSt → mmX} : gNC (mcopy ly S σ g) := by
  unfold mcopy; split
  · refine condP ?_ trivial
    split
    · trivial
    · trivial
  · trivial
theorem nx_none (ly : mmL) (d M i : Nat) (L S : List mmV) (σ : mmSt) (ins : Instr) (a b : Nat) (k0 : Int) (sw : List (Int × Nat)) (x : mmX) (k : mmY → mmX) (hs : mstepI ly d M i L S σ ins a b k0 sw = rCall x k) : isInv ins = true := by
  have key : isInv ins = true ∨ gNC (mstepI ly d M i L S σ ins a b k0 sw) := by
    cases ins with
    | aload_n q =>
      refine Or.inr ?_
      simp only [mstepI]
      exact nc_mlda _ (fun _ => trivial)
    | aload q =>
      refine Or.inr ?_
      simp only [mstepI]
      exact nc_mlda _ (fun _ => trivial)
    | iload_n q =>
      refine Or.inr ?_
      simp only [mstepI]
      exact nc_mldi _ (fun _ => trivial)
    | iload q =>
      refine Or.inr ?_
      simp only [mstepI]
      exact nc_mldi _ (fun _ => trivial)
    | lload_n q =>
      refine Or.inr ?_
      simp only [mstepI]
      exact nc_mldl _ (fun _ => trivial)
    | lload q =>
      refine Or.inr ?_
      simp only [mstepI]
      exact nc_mldl _ (fun _ => trivial)
    | istore_n q =>
      refine Or.inr ?_
      simp only [mstepI]
      exact nc_msti _ (fun _ _ => trivial)
    | istore q =>
      refine Or.inr ?_
      simp only [mstepI]
      exact nc_msti _ (fun _ _ => trivial)
    | lstore_n q =>
      refine Or.inr ?_
      simp only [mstepI]
      exact nc_mstl _ (fun _ _ => trivial)
    | lstore q =>
      refine Or.inr ?_
      simp only [mstepI]
      exact nc_mstl _ (fun _ _ => trivial)
    | astore_n q =>
      refine Or.inr ?_
      simp only [mstepI]
      exact nc_msta _ (fun _ _ => trivial)
    | iadd =>
      refine Or.inr ?_
      simp only [mstepI]
      exact nc_mbin _ (fun _ => trivial)
    | isub =>
      refine Or.inr ?_
      simp only [mstepI]
      exact nc_mbin _ (fun _ => trivial)
    | imul =>
      refine Or.inr ?_
      simp only [mstepI]
      exact nc_mbin _ (fun _ => trivial)
    | iand =>
      refine Or.inr ?_
      simp only [mstepI]
      exact nc_mbin _ (fun _ => trivial)
    | ior =>
      refine Or.inr ?_
      simp only [mstepI]
      exact nc_mbin _ (fun _ => trivial)
    | ixor =>
      refine Or.inr ?_
      simp only [mstepI]
      exact nc_mbin _ (fun _ => trivial)
    | ishl =>
      refine Or.inr ?_
      simp only [mstepI]
      exact nc_mbin _ (fun _ => trivial)
    | ishr =>
      refine Or.inr ?_
      simp only [mstepI]
      exact nc_mbin _ (fun _ => trivial)
    | iushr =>
      refine Or.inr ?_
      simp only [mstepI]
      exact nc_mbin _ (fun _ => trivial)
    | ineg =>
      refine Or.inr ?_
      simp only [mstepI]
      exact nc_mun _ (fun _ => trivial)
    | i2b =>
      refine Or.inr ?_
      simp only [mstepI]
      exact nc_mun _ (fun _ => trivial)
    | i2s =>
      refine Or.inr ?_
      simp only [mstepI]
      exact nc_mun _ (fun _ => trivial)
    | ladd =>
      refine Or.inr ?_
      simp only [mstepI]
      exact nc_mbinL _ (fun _ => trivial)
    | lsub =>
      refine Or.inr ?_
      simp only [mstepI]
      exact nc_mbinL _ (fun _ => trivial)
    | lmul =>
      refine Or.inr ?_
      simp only [mstepI]
      exact nc_mbinL _ (fun _ => trivial)
    | ldiv =>
      refine Or.inr ?_
      simp only [mstepI]
      split <;> trivial
    | lrem =>
      refine Or.inr ?_
      simp only [mstepI]
      split <;> trivial
    | lcmp =>
      refine Or.inr ?_
      simp only [mstepI]
      split <;> trivial
    | i2l =>
      refine Or.inr ?_
      simp only [mstepI]
      split <;> trivial
    | l2i =>
      refine Or.inr ?_
      simp only [mstepI]
      split <;> trivial
    | dup =>
      refine Or.inr ?_
      simp only [mstepI]
      split <;> trivial
    | dup2 =>
      refine Or.inr ?_
      simp only [mstepI]
      split <;> trivial
    | ifCond q r =>
      refine Or.inr ?_
      simp only [mstepI]
      split <;> trivial
    | if_icmp q r =>
      refine Or.inr ?_
      simp only [mstepI]
      split <;> trivial
    | tableswitch q r t u =>
      refine Or.inr ?_
      simp only [mstepI]
      split <;> trivial
    | lookupswitch q r =>
      refine Or.inr ?_
      simp only [mstepI]
      split <;> trivial
    | iinc q r =>
      refine Or.inr ?_
      simp only [mstepI]
      split
      · exact condP trivial trivial
      · trivial
    | getfield q =>
      refine Or.inr ?_
      simp only [mstepI]
      exact nc_mgetf _ _ (fun _ => trivial)
    | putfield q =>
      refine Or.inr ?_
      simp only [mstepI]
      exact condP (nc_mputf _ _ (fun _ _ => trivial)) trivial
    | iaload =>
      refine Or.inr ?_
      simp only [mstepI]
      exact nc_mald false
    | baload =>
      refine Or.inr ?_
      simp only [mstepI]
      exact nc_mald true
    | iastore =>
      refine Or.inr ?_
      simp only [mstepI]
      exact nc_mast false
    | bastore =>
      refine Or.inr ?_
      simp only [mstepI]
      exact nc_mast true
    | aaload =>
      refine Or.inr ?_
      simp only [mstepI]
      exact nc_maald (fun _ => trivial)
    | arraylength =>
      refine Or.inr ?_
      simp only [mstepI]
      exact nc_malen (fun _ => trivial)
    | ireturn =>
      refine Or.inr ?_
      simp only [mstepI]
      split
      · exact condP trivial (condP trivial trivial)
      · trivial
    | lreturn =>
      refine Or.inr ?_
      simp only [mstepI]
      split
      · exact condP trivial trivial
      · trivial
    | return_ =>
      refine Or.inr ?_
      simp only [mstepI]
      split
      · exact condP trivial trivial
      · trivial
    | invokevirtual q => exact Or.inl rfl
    | invokespecial q => exact Or.inl rfl
    | invokestatic q => exact Or.inl rfl
    | _ => exact Or.inr trivial
  rcases key with h | h
  · exact h
  · rw [hs] at h
    exact h.elim
def isRet : Instr → Bool
  | .ireturn | .lreturn | .return_ => true
  | _ => false
/-- no end -/
def gNR (r : mmS) : Prop := match r with
  | .inr (.inl _) => False
  | _ => True
theorem nr_mbin (f : Int → Int → Int) {g : List mmV → mmS} (h : ∀ z, gNR (g z)) : gNR (mbin f S g) := by
  unfold mbin; split
  · exact h _
  · trivial
theorem nr_mun (f : Int → Int) {g : List mmV → mmS} (h : ∀ z, gNR (g z)) : gNR (mun f S g) := by
  unfold mun; split
  · exact h _
  · trivial
theorem nr_mbinL (f : Int → Int → Int) {g : List mmV → mmS} (h : ∀ z, gNR (g z)) : gNR (mbinL f S g) := by
  unfold mbinL; split
  · exact h _
  · trivial
theorem nr_mldi (k : Nat) {g : List mmV → mmS} (h : ∀ z, gNR (g z)) : gNR (mldi L S k g) := by
  unfold mldi; split
  · exact h _
  · trivial
theorem nr_mldl (k : Nat) {g : List mmV → mmS} (h : ∀ z, gNR (g z)) : gNR (mldl L S k g) := by
  unfold mldl; split
  · exact h _
  · trivial
theorem nr_mlda (k : Nat) {g : List mmV → mmS} (h : ∀ z, gNR (g z)) : gNR (mlda L S k g) := by
  unfold mlda; split
  · exact h _
  · trivial
theorem nr_msti (k : Nat) {g : List mmV → List mmV → mmS} (h : ∀ y z, gNR (g y z)) : gNR (msti L S k g) := by
  unfold msti; split
  · exact condP (h _ _) trivial
  · trivial
theorem nr_mstl (k : Nat) {g : List mmV → List mmV → mmS} (h : ∀ y z, gNR (g y z)) : gNR (mstl L S k g) := by
  unfold mstl; split
  · exact condP (h _ _) trivial
  · trivial
theorem nr_msta (k : Nat) {g : List mmV → List mmV → mmS} (h : ∀ y z, gNR (g y z)) : gNR (msta L S k g) := by
  unfold msta; split
  · exact condP (h _ _) trivial
  · trivial
theorem nr_mgetf (ci k : Nat) {g : List mmV → mmS} (h : ∀ z, gNR (g z)) : gNR (mgetf ly ci k S σ g) := by
  unfold mgetf; split
  · refine condP ?_ trivial
    split
    · refine condP ?_ trivial
      split
      · exact h _
      · exact h _
      · trivial
    · trivial
  · trivial
theorem nr_mputf (ci k : Nat) {g : List mmV → mmSt → mmS} (h : ∀ y z, gNR (g y z)) : gNR (mputf ly ci k S σ g) := by
  unfold mputf; split
  · refine condP ?_ trivial
    split
    · refine condP ?_ trivial
      split
      · exact h _ _
      · trivial
    · trivial
  · trivial
theorem nr_mald (bo : Bool) {g : List mmV → mmX} : gNR (mald ly bo S σ g) := by
  unfold mald; split
  · refine condP ?_ trivial
    split
    · exact condP trivial trivial
    · trivial
  · trivial
theorem nr_mast (bo : Bool) {g : List mmV → mmSt → mmX} : gNR (mast ly bo S σ g) := by
  unfold mast; split
  · refine condP ?_ trivial
    split
    · exact condP trivial trivial
    · trivial
  · trivial
theorem nr_maald {g : List mmV → mmS} (h : ∀ z, gNR (g z)) : gNR (maald ly S g) := by
  unfold maald; split
  · refine condP ?_ trivial
    split
    · split
      · exact h _
      · trivial
    · trivial
  · trivial
theorem nr_malen {g : List mmV → mmS} (h : ∀ z, gNR (g z)) : gNR (malen ly S g) := by
  unfold malen; split
  · refine condP ?_ trivial
    split
    · exact h _
    · trivial
  · trivial
theorem nr_mcopy {g : List mmV → mmSt → mmX} : gNR (mcopy ly S σ g) := by
  unfold mcopy; split
  · refine condP ?_ trivial
    split
    · trivial
    · trivial
  · trivial
theorem nr_mcall (virt : Bool) : gNR (mcall ly virt d M i L S σ a b) := by
  unfold mcall; split
  · trivial
  · exact condP trivial trivial
theorem nr_none (ly : mmL) (d M i : Nat) (L S : List mmV) (σ : mmSt) (ins : Instr) (a b : Nat) (k0 : Int) (sw : List (Int × Nat)) (y : Bool × mmY) (hs : mstepI ly d M i L S σ ins a b k0 sw = .inr (.inl y)) : isRet ins = true := by
  have key : isRet ins = true ∨ gNR (mstepI ly d M i L S σ ins a b k0 sw) := by
    cases ins with
    | aload_n q =>
      refine Or.inr ?_
      simp only [mstepI]
      exact nr_mlda _ (fun _ => trivial)
    | aload q =>
      refine Or.inr ?_
      simp only [mstepI]
      exact nr_mlda _ (fun _ => trivial)
    | iload_n q =>
      refine Or.inr ?_
      simp only [mstepI]
      exact nr_mldi _ (fun _ => trivial)
    | iload q =>
      refine Or.inr ?_
      simp only [mstepI]
      exact nr_mldi _ (fun _ => trivial)
    | lload_n q =>
      refine Or.inr ?_
      simp only [mstepI]
      exact nr_mldl _ (fun _ => trivial)
    | lload q =>
      refine Or.inr ?_
      simp only [mstepI]
      exact nr_mldl _ (fun _ => trivial)
    | istore_n q =>
      refine Or.inr ?_
      simp only [mstepI]
      exact nr_msti _ (fun _ _ => trivial)
    | istore q =>
      refine Or.inr ?_
      simp only [mstepI]
      exact nr_msti _ (fun _ _ => trivial)
    | lstore_n q =>
      refine Or.inr ?_
      simp only [mstepI]
      exact nr_mstl _ (fun _ _ => trivial)
    | lstore q =>
      refine Or.inr ?_
      simp only [mstepI]
      exact nr_mstl _ (fun _ _ => trivial)
    | astore_n q =>
      refine Or.inr ?_
      simp only [mstepI]
      exact nr_msta _ (fun _ _ => trivial)
    | iadd =>
      refine Or.inr ?_
      simp only [mstepI]
      exact nr_mbin _ (fun _ => trivial)
    | isub =>
      refine Or.inr ?_
      simp only [mstepI]
      exact nr_mbin _ (fun _ => trivial)
    | imul =>
      refine Or.inr ?_
      simp only [mstepI]
      exact nr_mbin _ (fun _ => trivial)
    | iand =>
      refine Or.inr ?_
      simp only [mstepI]
      exact nr_mbin _ (fun _ => trivial)
    | ior =>
      refine Or.inr ?_
      simp only [mstepI]
      exact nr_mbin _ (fun _ => trivial)
    | ixor =>
      refine Or.inr ?_
      simp only [mstepI]
      exact nr_mbin _ (fun _ => trivial)
    | ishl =>
      refine Or.inr ?_
      simp only [mstepI]
      exact nr_mbin _ (fun _ => trivial)
    | ishr =>
      refine Or.inr ?_
      simp only [mstepI]
      exact nr_mbin _ (fun _ => trivial)
    | iushr =>
      refine Or.inr ?_
      simp only [mstepI]
      exact nr_mbin _ (fun _ => trivial)
    | ineg =>
      refine Or.inr ?_
      simp only [mstepI]
      exact nr_mun _ (fun _ => trivial)
    | i2b =>
      refine Or.inr ?_
      simp only [mstepI]
      exact nr_mun _ (fun _ => trivial)
    | i2s =>
      refine Or.inr ?_
      simp only [mstepI]
      exact nr_mun _ (fun _ => trivial)
    | ladd =>
      refine Or.inr ?_
      simp only [mstepI]
      exact nr_mbinL _ (fun _ => trivial)
    | lsub =>
      refine Or.inr ?_
      simp only [mstepI]
      exact nr_mbinL _ (fun _ => trivial)
    | lmul =>
      refine Or.inr ?_
      simp only [mstepI]
      exact nr_mbinL _ (fun _ => trivial)
    | ldiv =>
      refine Or.inr ?_
      simp only [mstepI]
      split <;> trivial
    | lrem =>
      refine Or.inr ?_
      simp only [mstepI]
      split <;> trivial
    | lcmp =>
      refine Or.inr ?_
      simp only [mstepI]
      split <;> trivial
    | i2l =>
      refine Or.inr ?_
      simp only [mstepI]
      split <;> trivial
    | l2i =>
      refine Or.inr ?_
      simp only [mstepI]
      split <;> trivial
    | dup =>
      refine Or.inr ?_
      simp only [mstepI]
      split <;> trivial
    | dup2 =>
      refine Or.inr ?_
      simp only [mstepI]
      split <;> trivial
    | ifCond q r =>
      refine Or.inr ?_
      simp only [mstepI]
      split <;> trivial
    | if_icmp q r =>
      refine Or.inr ?_
      simp only [mstepI]
      split <;> trivial
    | tableswitch q r t u =>
      refine Or.inr ?_
      simp only [mstepI]
      split <;> trivial
    | lookupswitch q r =>
      refine Or.inr ?_
      simp only [mstepI]
      split <;> trivial
    | iinc q r =>
      refine Or.inr ?_
      simp only [mstepI]
      split
      · exact condP trivial trivial
      · trivial
    | getfield q =>
      refine Or.inr ?_
      simp only [mstepI]
      exact nr_mgetf _ _ (fun _ => trivial)
    | putfield q =>
      refine Or.inr ?_
      simp only [mstepI]
      exact condP (nr_mputf _ _ (fun _ _ => trivial)) trivial
    | iaload =>
      refine Or.inr ?_
      simp only [mstepI]
      exact nr_mald false
    | baload =>
      refine Or.inr ?_
      simp only [mstepI]
      exact nr_mald true
    | iastore =>
      refine Or.inr ?_
      simp only [mstepI]
      exact nr_mast false
    | bastore =>
      refine Or.inr ?_
      simp only [mstepI]
      exact nr_mast true
    | aaload =>
      refine Or.inr ?_
      simp only [mstepI]
      exact nr_maald (fun _ => trivial)
    | arraylength =>
      refine Or.inr ?_
      simp only [mstepI]
      exact nr_malen (fun _ => trivial)
    | ireturn => exact Or.inl rfl
    | lreturn => exact Or.inl rfl
    | return_ => exact Or.inl rfl
    | invokevirtual q =>
      refine Or.inr ?_
      simp only [mstepI]
      exact nr_mcall true
    | invokespecial q =>
      refine Or.inr ?_
      simp only [mstepI]
      refine condP ?_ (nr_mcall true)
      split
      · exact condP trivial trivial
      · trivial
    | invokestatic q =>
      refine Or.inr ?_
      simp only [mstepI]
      exact condP (condP trivial nr_mcopy) (condP (condP trivial (nr_mbin _ (fun _ => trivial))) (condP (condP trivial (nr_mbin _ (fun _ => trivial))) (nr_mcall false)))
    | _ => exact Or.inr trivial
  rcases key with h | h
  · exact h
  · rw [hs] at h
    exact h.elim
def gKind (M : Nat) (pc : Nat) (virt : Bool) (a b : Nat) : Prop := ∃ idx, xlink M idx (mnm a) = true ∧
  ((decode (mby M) pc = .ok (.invokevirtual idx, 3) ∧ virt = true ∧ mstat a = false ∧ minit a = false ∧ 0 < b ∧ xpar a (b - 1) = true) ∨ (decode (mby M) pc = .ok (.invokespecial idx, 3) ∧ virt = true ∧ mstat a = false ∧ minit a = true ∧ 0 < b ∧ xpar a (b - 1) = true) ∨ (decode (mby M) pc = .ok (.invokestatic idx, 3) ∧ virt = false ∧ mstat a = true ∧ xpar a b = true))
theorem mcall_spec {virt : Bool} {x : mmX} {k : mmY → mmX} (h : mcall ly virt d M i L S σ a b = rCall x k) : ∃ d', d = d' + 1 ∧ x = (d', a, 0, mframe (S.take b).reverse (mmaxL a), [], σ) ∧ k = (fun y => (d' + 1, M, i + 1, L, mpush (mrk a) y.2 (S.drop b), y.1)) ∧ b ≤ S.length ∧ mwords (S.drop b) ≤ 8 ∧ (virt = true → misObj ly (mcls a) ((S.take b).getLastD mJ) = true) ∧ (mslots (S.take b).reverse).length ≤ mmaxL a := by
  unfold mcall at h
  split at h
  · cases h
  · rename_i d'
    cases hc : (Nat.ble b S.length && Nat.ble (mwords (S.drop b)) 8 && (!virt || misObj ly (mcls a) ((S.take b).getLastD mJ)) && Nat.ble (mslots (S.take b).reverse).length (mmaxL a)) with
    | false => rw [hc] at h; cases h
    | true =>
      rw [hc] at h
      simp only [cond_true] at h
      cases h
      refine ⟨d', rfl, rfl, rfl, ble_le (bb (bb (bb hc).1).1).1, ble_le (bb (bb (bb hc).1).1).2, fun hv => ?_, ble_le (bb hc).2⟩
      have := (bb (bb hc).1).2
      rw [hv] at this
      exact this
theorem ini_all : ∀ a, a < 243 → minit a = true → mrt a = none := by decide +kernel
theorem mstat_12 (h : mstat a = false) : ¬ a = 1 ∧ ¬ a = 2 := ⟨fun q => by rw [q] at h; exact absurd h (by decide), fun q => by rw [q] at h; exact absurd h (by decide)⟩
theorem not_next {X : mmX} {x : mmX} {k : mmY → mmX} (h : (rNext X : mmS) = rCall x k) : False := by cases h
theorem sn_bool {z : Bool} (h : (!z) = true) : z = false := by cases z; rfl; cases h
/-- what a call is -/
theorem call_spec {x : mmX} {k : mmY → mmX} (hok : okE M i = true) (hs : sstep ly (d, M, i, L, S, σ) = rCall x k) : ∃ (d' a b : Nat) (virt : Bool), d = d' + 1 ∧ x = (d', a, 0, mframe (S.take b).reverse (mmaxL a), [], σ) ∧ k = (fun y => (d' + 1, M, i + 1, L, mpush (mrk a) y.2 (S.drop b), y.1)) ∧ b ≤ S.length ∧ mwords (S.drop b) ≤ 8 ∧ (virt = true → misObj ly (mcls a) ((S.take b).getLastD mJ) = true) ∧ (mslots (S.take b).reverse).length ≤ mmaxL a ∧ (prg M (i + 1)).1 = (prg M i).1 + 3 ∧ i + 1 < mlen M ∧ a < 242 ∧ (¬ a = 1 ∧ ¬ a = 2) ∧ gKind M (prg M i).1 virt a b := by
  rcases hp : prg M i with ⟨pc, ins, a, b, k0, sw⟩
  have hok : okI M i pc ins a b k0 sw = true := by unfold okE at hok; rw [hp] at hok; exact hok
  have hs : mstepI ly d M i L S σ ins a b k0 sw = rCall x k := by unfold sstep at hs; simp only [hp] at hs; exact hs
  have nx := nx_none ly d M i L S σ ins a b k0 sw x k hs
  cases ins with
  | invokevirtual idx =>
    simp only [okI, Bool.and_eq_true] at hok
    obtain ⟨⟨⟨⟨⟨⟨⟨h1, h2⟩, h3⟩, h4⟩, h5⟩, h6⟩, h7⟩, h8⟩ := hok
    obtain ⟨d', q1, q2, q3, q4, q5, q6, q7⟩ := mcall_spec hs
    exact ⟨d', a, b, true, q1, q2, q3, q4, q5, q6, q7, xnx_eq h2, xnx_lt h2, blt_lt h3, mstat_12 (sn_bool h5), idx, h4, Or.inl ⟨xdec_eq h1, rfl, sn_bool h5, sn_bool h6, blt_lt h7, h8⟩⟩
  | invokespecial idx =>
    by_cases hb0 : b = 0
    · subst hb0
      exfalso
      simp only [mstepI, beq_self_eq_true, cond_true] at hs
      split at hs
      · exact condP (P := fun r => r = (rCall x k : mmS) → False) (fun h => by cases h) (fun h => by cases h) hs
      · cases hs
    · simp only [okI, Bool.and_eq_true] at hok
      simp only [mstepI] at hs
      rw [show (b == 0) = false from beq_eq_false_iff_ne.mpr hb0] at hs hok
      obtain ⟨⟨h1, h2⟩, h9⟩ := hok
      obtain ⟨h9, h8⟩ := bb h9
      obtain ⟨h9, h6⟩ := bb h9
      obtain ⟨h9, h5⟩ := bb h9
      obtain ⟨h3, h4⟩ := bb h9
      obtain ⟨d', q1, q2, q3, q4, q5, q6, q7⟩ := mcall_spec hs
      exact ⟨d', a, b, true, q1, q2, q3, q4, q5, q6, q7, xnx_eq h2, xnx_lt h2, blt_lt h3, mstat_12 (sn_bool h5), idx, h4, Or.inr (Or.inl ⟨xdec_eq h1, rfl, sn_bool h5, h6, by omega, h8⟩)⟩
  | invokestatic idx =>
    simp only [mstepI] at hs
    by_cases h99 : b = 99
    · subst h99
      exfalso
      simp only [beq_self_eq_true, cond_true] at hs
      revert hs
      cases (d == 0)
      · intro hs
        simp only [cond_false, mcopy] at hs
        split at hs
        · revert hs
          cases (Nat.ble 4 _ && Nat.blt _ ly.1 && Nat.ble 4 _ && Nat.blt _ ly.1 && Nat.ble _ 8)
          · intro h; cases h
          · intro hs
            simp only [cond_true] at hs
            split at hs
            · cases hs
            · cases hs
        · cases hs
      · intro h; cases h
    · rw [show (b == 99) = false from beq_eq_false_iff_ne.mpr h99] at hs
      have bin : ∀ f : Int → Int → Int, (bif d == 0 || !(Nat.ble (mwords S) 10) then rFail else mbin f S (fun S => rNext (d, M, i + 1, L, S, σ))) = (rCall x k : mmS) → False := by
        intro f h
        revert h
        cases (d == 0 || !(Nat.ble (mwords S) 10))
        · intro h
          simp only [cond_false, mbin] at h
          split at h
          · cases h
          · cases h
        · intro h; cases h
      by_cases h98 : b = 98
      · subst h98
        exact (bin mmaxi hs).elim
      · by_cases h97 : b = 97
        · subst h97
          exact (bin mmini hs).elim
        · rw [show (b == 98) = false from beq_eq_false_iff_ne.mpr h98, show (b == 97) = false from beq_eq_false_iff_ne.mpr h97] at hs
          simp only [okI, Bool.and_eq_true] at hok
          rw [show (b == 99) = false from beq_eq_false_iff_ne.mpr h99, show (b == 98) = false from beq_eq_false_iff_ne.mpr h98, show (b == 97) = false from beq_eq_false_iff_ne.mpr h97] at hok
          obtain ⟨⟨h1, h2⟩, h9⟩ := hok
          obtain ⟨h9, h8⟩ := bb h9
          obtain ⟨h9, h5⟩ := bb h9
          obtain ⟨h9, h4⟩ := bb h9
          obtain ⟨h9, h3⟩ := bb h9
          obtain ⟨g1, g2⟩ := bb h9
          obtain ⟨d', q1, q2, q3, q4, q5, q6, q7⟩ := mcall_spec hs
          exact ⟨d', a, b, false, q1, q2, q3, q4, q5, q6, q7, xnx_eq h2, xnx_lt h2, blt_lt h3, ⟨(fun q => by rw [q] at g1; cases g1), (fun q => by rw [q] at g2; cases g2)⟩, idx, h4, Or.inr (Or.inr ⟨xdec_eq h1, rfl, h5, h8⟩)⟩
  | _ => cases nx
theorem take_last (hb : 0 < b) (hl : b ≤ S.length) : ∃ (x : mmV) (As : List mmV), S.take b = As.reverse ++ [x] ∧ (S.take b).reverse = x :: As ∧ (S.take b).getLastD mJ = x ∧ As.length = b - 1 := by
  have hne : S.take b ≠ [] := by
    intro q
    have := congrArg List.length q
    rw [List.length_take, List.length_nil] at this
    omega
  refine ⟨(S.take b).getLast hne, (S.take b).dropLast.reverse, ?_, ?_, ?_, ?_⟩
  · rw [List.reverse_reverse, List.dropLast_concat_getLast]
  · conv => lhs; rw [← List.dropLast_concat_getLast hne]
    rw [List.reverse_append]
    rfl
  · rw [List.getLastD_eq_getLast?, List.getLast?_eq_some_getLast hne]
    rfl
  · rw [List.length_reverse, List.length_dropLast, List.length_take]
    omega
theorem xpar_eq {n : Nat} (h : xpar a n = true) : (parseMethodDescriptor (mnm a).desc).map (fun q => q.parameters.length) = some n := of_decide_eq_true h
theorem good_app {x y : List Cond} (h1 : GoodIn tb x) (h2 : GoodIn tb y) : GoodIn tb (x ++ y) := fun w h => (List.mem_append.mp h).elim (h1 w) (h2 w)
theorem good_tb {w : Cond} (h : w ∈ tb) : w ∈ tb ∧ ((w.onTables && w.keeps) = true ∨ ∃ ty, w = .arrayClass ty) := goodIn_tb w h
theorem good_ws0 (h : Cond.code (mnm a) (mby a) (mmaxL a) (mrt a) ∈ tb) : GoodIn tb (gws0 a) := fun w hw => (List.mem_cons.mp hw).elim (fun q => q ▸ good_tb h) (fun q => good_tb q)
/-- the run of a call -/
theorem call_run {d' : Nat} {ly' : mmL} {σ' : mmSt} {v : Int} {virt : Bool} (ha : a < 242) (hokA : okM a = true) (hcode : Cond.code (mnm a) (mby a) (mmaxL a) (mrt a) ∈ tb) (F : gCF G p s m args meth c M) (hR : d' + 1 ≤ R.frames ∧ 64 * (d' + 1) ≤ R.locals) (hcl : cells + (ly'.1 - ly.1) ≤ R.cells) (hsl : slots + (ly'.2.1 - ly.2.1) ≤ R.slots) (hV : gV M L S σ) (hb : b ≤ S.length) (hw8 : mwords (S.drop b) ≤ 8) (hvirt : virt = true → misObj ly (mcls a) ((S.take b).getLastD mJ) = true) (hsl2 : (mslots (S.take b).reverse).length ≤ mmaxL a) (hK : gKind M pc virt a b)
    (hS : gSnd l G ly d' a 0 (mframe (S.take b).reverse (mmaxL a)) [] σ ly' σ' v) {H : Heap} {locs : List Loc} {ls : Array Slot} (hw : gWD G ly σ H) (hs : va_S (gA G) s.heap H locs) (hl : gLR G ls L) : va_Run p l e R s m args below meth c H locs cells slots (ly'.1 - ly.1) (ly'.2.1 - ly.2.1) (F0 m pc ls (S.map (grv G))) ((S.drop b).map (grv G)) (gQ G a ly' σ' v (((S.take b).reverse).map (grv G)).toArray) (gA G) := by
  obtain ⟨hx, hbb, hml, hown, hts, hrt, hlk, hnm, hE⟩ := F
  have hM := met_of hokA hcode hsl2 (fun x hx => hV.2.1 x (List.mem_of_mem_take (List.mem_reverse.mp hx))) hV.2.2.1 hS
  obtain ⟨o1, o2, o3, o4, o5, o6, o7, o8, o9, o10, o11⟩ := okM_spec hokA
  have hroom : ({ frames := d', cells := ly'.1 - ly.1, slots := ly'.2.1 - ly.2.1, locals := 64 * d' } : Room).frames + 1 ≤ R.frames ∧ 8 + (mmaxL a + 11) + ({ frames := d', cells := ly'.1 - ly.1, slots := ly'.2.1 - ly.2.1, locals := 64 * d' } : Room).locals ≤ R.locals := ⟨hR.1, by show 8 + (mmaxL a + 11) + 64 * d' ≤ _; omega⟩
  have hsize : ls.size = mmaxL M := by rw [← hV.2.2.2]; exact hl.1
  have hrm : 2 * (F0 m pc ls (S.map (grv G))).monitorRoom + (((S.drop b).map (grv G)).map fun v => v.category).sum ≤ 8 := lv_room (by rw [mwords_sum]; exact hw8)
  have hSf : CallFix p m c (mby M) (mmaxL M) s args tb (mnm M).cls := ⟨hx, hbb, hml, hown, hts⟩
  have hpre : ∀ U : State, U.heap = H → s.WarmedH U.vm → gP G ly σ U := fun U hU hW => ⟨gEF_move hE hs hU hW, by rw [hU]; exact hw⟩
  have hmap : S.map (grv G) = (S.take b).map (grv G) ++ (S.drop b).map (grv G) := by rw [← List.map_append, List.take_append_drop]
  obtain ⟨idx, hlk2, hkind⟩ := hK
  have hg0 := good_ws0 hcode
  rcases hkind with ⟨hd, hvt, hst, hni, hb0, hpar⟩ | ⟨hd, hvt, hst, hni, hb0, hpar⟩ | ⟨hd, hvt, hst, hpar⟩
  · obtain ⟨x, As, t1, t2, t3, t4⟩ := take_last hb0 hb
    have hob := hvirt hvt
    rw [t3] at hob
    obtain ⟨oI, oS, oC⟩ := o11 hst
    have oS := oS hni
    rcases x with z | z | o | u
    · cases hob
    · cases hob
    · unfold misObj at hob
      simp only at hob
      split at hob
      · rename_i cq fq hlq
        have hcq : cq = mcls a := eq_of_beq (bb (bb hob).1).1
        subst hcq
        have hq4 := ble_le (bb (bb hob).1).2
        have hqlt := blt_lt (bb hob).2
        obtain ⟨cq1, hcq1, hcq2⟩ := Option.map_eq_some_iff.mp oC
        have hrecv := va_recv hE.1 hw.1 hcq1 (q0 := o - 4) (a := gad G o) (fs := fq.mapIdx (fun j z => gfv G σ o j z)) (by rw [gws_at G ly.2.2 σ hq4 hqlt]; unfold gcell; rw [hlq])
        rw [hcq2] at hrecv
        rw [t2] at hM ⊢
        have hstk : S.map (grv G) = (As.map (grv G)).reverse ++ .ref (gad G o) :: (S.drop b).map (grv G) := by
          rw [hmap, t1]; simp [grv]
        have hPV : PreV s H (mnm a).cls (gad G o) (va_Pc ((mR o :: As).map (grv G)) (gP G ly σ)) (As.map (grv G)) := ⟨gP_blind, hrecv, fun U hU hW => ⟨rfl, hpre U hU hW⟩⟩
        rcases Bool.or_eq_true_iff.mp hlk2 with hh | hh
        · exact va_runV hSf hM (cwV (b - 1) hts (good_app (fun w hw => by
            rcases List.mem_cons.mp hw with rfl | hw
            · exact good_tb (tbAt_mem hh)
            · rcases List.mem_cons.mp hw with rfl | hw
              · exact good_tb oI
              · rcases List.mem_cons.mp hw with rfl | hw
                · exact good_tb oS
                · rcases List.mem_cons.mp hw with rfl | hw
                  · exact good_tb o8
                  · cases hw) hg0) rfl rfl rfl ⟨rfl, o9.1, o9.2, xpar_eq hpar⟩ hroom) hPV rfl (by rw [List.length_map]; exact t4) hsize hstk hrm hd ⟨hcl, hsl⟩
        · exact va_runVN hSf hM ⟨va_cnB (b - 1) hts hg0 rfl rfl rfl (hE.2.1 _ (nbAt_mem hh) rfl) (hts _ o8) ⟨o9.1, o9.2, xpar_eq hpar⟩ hroom, hts _ oI, hts _ oS⟩ hPV rfl (by rw [List.length_map]; exact t4) hsize hstk hrm hd ⟨hcl, hsl⟩
      · cases hob
    · cases hob
  · obtain ⟨x, As, t1, t2, t3, t4⟩ := take_last hb0 hb
    have hob := hvirt hvt
    rw [t3] at hob
    obtain ⟨oI, -, oC⟩ := o11 hst
    rcases x with z | z | o | u
    · cases hob
    · cases hob
    · rw [t2] at hM ⊢
      have hstk : S.map (grv G) = (As.map (grv G)).reverse ++ .ref (gad G o) :: (S.drop b).map (grv G) := by
        rw [hmap, t1]; simp [grv]
      have hPS : PreS s H (va_Pc ((mR o :: As).map (grv G)) (gP G ly σ)) (.ref (gad G o) :: As.map (grv G)) := ⟨gP_blind, fun U hU hW => ⟨rfl, hpre U hU hW⟩⟩
      have hnone : mrt a = none := by
        exact ini_all a (by omega) hni
      have hg1 : gws0 a = Cond.code (mnm a) (mby a) (mmaxL a) none :: tb := by unfold gws0; rw [hnone]
      rcases Bool.or_eq_true_iff.mp hlk2 with hh | hh
      · exact va_runI hSf hM (cwI (b - 1) hts hg0 hg1 rfl rfl (hts _ o8) (hts _ (tbAt_mem hh)) (hts _ oI) (o5.mp hni) ⟨o9.1, o9.2, xpar_eq hpar⟩ hroom) hPS rfl (by rw [List.length_map]; exact t4) hsize hstk hrm hd ⟨hcl, hsl⟩
      · exact va_runIN hSf hM ⟨va_cnB (b - 1) hts hg0 hg1 rfl rfl (hE.2.1 _ (nbAt_mem hh) rfl) (hts _ o8) ⟨o9.1, o9.2, xpar_eq hpar⟩ hroom, o5.mp hni, hts _ oI⟩ hPS rfl (by rw [List.length_map]; exact t4) hsize hstk hrm hd ⟨hcl, hsl⟩
    · cases hob
  · have oT := o10 hst
    have hstk : S.map (grv G) = (((S.take b).reverse).map (grv G)).reverse ++ (S.drop b).map (grv G) := by
      rw [hmap, List.map_reverse, List.reverse_reverse]
    have hPS : PreS s H (va_Pc (((S.take b).reverse).map (grv G)) (gP G ly σ)) (((S.take b).reverse).map (grv G)) := ⟨gP_blind, fun U hU hW => ⟨rfl, hpre U hU hW⟩⟩
    have hlen : (((S.take b).reverse).map (grv G)).length = b := by rw [List.length_map, List.length_reverse, List.length_take]; omega
    rcases Bool.or_eq_true_iff.mp hlk2 with hh | hh
    · exact va_runS hSf hM (va_cwS b hts (good_app (fun w hw => by
            rcases List.mem_cons.mp hw with rfl | hw
            · exact good_tb (tbAt_mem hh)
            · rcases List.mem_cons.mp hw with rfl | hw
              · exact good_tb oT
              · rcases List.mem_cons.mp hw with rfl | hw
                · exact good_tb o8
                · cases hw) hg0) rfl rfl rfl ⟨o9.1, o9.2, xpar_eq hpar⟩ hroom) hPS rfl hlen hsize hstk hrm hd ⟨hcl, hsl⟩
    · exact va_runSN hSf hM ⟨va_cnB b hts hg0 rfl rfl rfl (hE.2.1 _ (nbAt_mem hh) rfl) (hts _ o8) ⟨o9.1, o9.2, xpar_eq hpar⟩ hroom, hts _ oT, trivial⟩ hPS rfl hlen hsize hstk hrm hd ⟨hcl, hsl⟩
/-- an end -/
theorem ret_spec {bo : Bool} {τ : mmSt} {v : Int} (hok : okE M i = true) (hs : sstep ly (d, M, i, L, S, σ) = rRet bo (τ, v)) (hbo : bo = true) (hm3 : mrk M ≤ 3) (hV : gV M L S σ) : τ = σ ∧ decode (mby M) (prg M i).1 = .ok (gRi M, 1) ∧ S.map (grv G) = gRs M v ∧ gRv M v := by
  subst hbo
  rcases hp : prg M i with ⟨pc, ins, a, b, k0, sw⟩
  have hok : okI M i pc ins a b k0 sw = true := by unfold okE at hok; rw [hp] at hok; exact hok
  have hs : mstepI ly d M i L S σ ins a b k0 sw = rRet true (τ, v) := by unfold sstep at hs; simp only [hp] at hs; exact hs
  have nr := nr_none ly d M i L S σ ins a b k0 sw (true, (τ, v)) hs
  cases ins with
  | ireturn =>
    simp only [okI] at hok
    simp only [mstepI] at hs
    split at hs
    · rename_i z
      cases h1 : (mrk M == 1) with
      | true =>
        rw [h1] at hs
        simp only [cond_true] at hs
        cases hs
        have k1 : mrk M = 1 := eq_of_beq h1
        have hz : vI v := vkv_hd hV.2.1
        refine ⟨rfl, ?_, ?_, ?_⟩
        · unfold gRi; rw [k1]; exact xdec_eq hok
        · unfold gRs; rw [k1]; rfl
        · exact ⟨fun _ => hz, fun q => by omega, fun q => by omega⟩
      | false =>
        rw [h1] at hs
        simp only [cond_false] at hs
        cases h3 : (mrk M == 3) with
        | false => rw [h3] at hs; cases hs
        | true =>
          rw [h3] at hs
          simp only [cond_true] at hs
          have k3 : mrk M = 3 := eq_of_beq h3
          have e := Sum.inl.inj (Sum.inr.inj hs)
          have e1 := congrArg Prod.fst e
          have e2 := congrArg Prod.snd e
          have hz0 := of_decide_eq_true (bb e1).1
          have hz1 := of_decide_eq_true (bb e1).2
          cases e2
          refine ⟨rfl, ?_, ?_, ?_⟩
          · unfold gRi; rw [k3]; exact xdec_eq hok
          · unfold gRs; rw [k3]; rfl
          · exact ⟨fun q => by omega, fun q => by omega, fun _ => by omega⟩
    · cases hs
  | lreturn =>
    simp only [okI] at hok
    simp only [mstepI] at hs
    split at hs
    · cases h1 : (mrk M == 2) with
      | false => rw [h1] at hs; cases hs
      | true =>
        rw [h1] at hs
        simp only [cond_true] at hs
        cases hs
        have k1 : mrk M = 2 := eq_of_beq h1
        have hz : vLg v := vkv_hd hV.2.1
        refine ⟨rfl, ?_, ?_, ?_⟩
        · unfold gRi; rw [k1]; exact xdec_eq hok
        · unfold gRs; rw [k1]; rfl
        · exact ⟨fun q => by omega, fun _ => hz, fun q => by omega⟩
    · cases hs
  | return_ =>
    simp only [okI] at hok
    simp only [mstepI] at hs
    split at hs
    · cases h1 : (mrk M == 0) with
      | false => rw [h1] at hs; cases hs
      | true =>
        rw [h1] at hs
        simp only [cond_true] at hs
        cases hs
        have k1 : mrk M = 0 := eq_of_beq h1
        refine ⟨rfl, ?_, ?_, ?_⟩
        · unfold gRi; rw [k1]; exact xdec_eq hok
        · unfold gRs; rw [k1]; rfl
        · exact ⟨fun q => by omega, fun q => by omega, fun q => by omega⟩
    · cases hs
  | _ => cases nr
theorem malloc_in {ly1 : mmL} {x1 : mmX} (hok : okE M i = true) (h : malloc ly (d, M, i, L, S, σ) = some (ly1, x1)) : gIn d M x1 := by
  unfold malloc at h
  rcases hp : prg M i with ⟨pc, ins, a, b, k0, sw⟩
  have hok : okI M i pc ins a b k0 sw = true := by unfold okE at hok; rw [hp] at hok; exact hok
  simp only [hp] at h
  have key : ∀ w, mallocI ly d M i L S σ ins a b k0 = some w → w.2.1 = d ∧ w.2.2.1 = M ∧ w.2.2.2.1 = i + 1 := by
    intro w hw
    cases ins with
    | newarray t =>
      simp only [mallocI] at hw
      split at hw
      · obtain ⟨-, hw⟩ := cond_some hw
        cases hw; exact ⟨rfl, rfl, rfl⟩
      · cases hw
    | anewarray k =>
      simp only [mallocI] at hw
      split at hw
      · obtain ⟨-, hw⟩ := cond_some hw
        cases hw; exact ⟨rfl, rfl, rfl⟩
      · cases hw
    | multianewarray k n0 =>
      simp only [mallocI] at hw
      split at hw
      · obtain ⟨-, hw⟩ := cond_some hw
        cases hw; exact ⟨rfl, rfl, rfl⟩
      · cases hw
    | new k =>
      simp only [mallocI] at hw
      cases hw; exact ⟨rfl, rfl, rfl⟩
    | putfield k =>
      simp only [mallocI] at hw
      split at hw
      · rename_i r o S'
        cases hc : (decide (k0 = 1) && Nat.ble 4 o && Nat.blt o ly.1 && Nat.blt r ly.1) with
        | false => rw [hc] at hw; cases hw
        | true =>
          rw [hc] at hw
          simp only [cond_true] at hw
          split at hw
          · rename_i c' fs hlay
            cases hcb : (c' == b) with
            | false => rw [hcb] at hw; cases hw
            | true =>
              rw [hcb] at hw
              simp only [cond_true] at hw
              split at hw
              · cases hw; exact ⟨rfl, rfl, rfl⟩
              · cases hw
          · cases hw
      · cases hw
    | aastore =>
      simp only [mallocI] at hw
      split at hw
      · rename_i q z r S'
        cases hc : (Nat.ble 4 r && Nat.blt r ly.1 && decide (0 ≤ z) && misObj ly 2 (mR q)) with
        | false => rw [hc] at hw; cases hw
        | true =>
          rw [hc] at hw
          simp only [cond_true] at hw
          split at hw
          · obtain ⟨-, hw⟩ := cond_some hw
            cases hw; exact ⟨rfl, rfl, rfl⟩
          · cases hw
      · cases hw
    | _ => cases hw
  obtain ⟨k1, k2, k3⟩ := key _ h
  refine ⟨k1, k2, ?_⟩
  show x1.2.2.1 < mlen M
  rw [k3]
  cases ins with
  | newarray t => simp only [okI, Bool.and_eq_true] at hok; exact xnx_lt hok.1.2
  | anewarray k => simp only [okI, Bool.and_eq_true] at hok; exact xnx_lt hok.1.2
  | multianewarray k n0 => simp only [okI, Bool.and_eq_true] at hok; exact xnx_lt hok.1.2
  | new k => simp only [okI, Bool.and_eq_true] at hok; exact xnx_lt hok.1.2
  | putfield k => simp only [okI, Bool.and_eq_true] at hok; exact xnx_lt hok.1.1.1.1.2
  | aastore => simp only [okI, Bool.and_eq_true] at hok; exact xnx_lt hok.2
  | _ => cases h
end MN
