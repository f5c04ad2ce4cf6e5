theorem mwrap_id {z : Int} (h : vI z) : mwrap z = z := by
  unfold mwrap
  unfold vI at h
  rw [Int.bmod_def]; omega
theorem minb_t {i : Int} {n : Nat} (h0 : 0 ≤ i) (h1 : i < (n : Int)) : minb i n = true := by
  simp [minb, h0, h1]
/-- a call of the class and the same call of the model: equal answers, and R stays -/
def cok (R : mmSt → Prop) (Ln mx mm : Nat) (Lx Lm : List mmV) : Prop := ∀ σ, R σ → ∃ σ1 v σ2, srun (lyT Ln) (99, mx, 0, Lx, [], σ) = some (σ1, v) ∧ srun (lyT Ln) (99, mm, 0, Lm, [], σ1) = some (σ2, v) ∧ R σ2 ∧ σ1 0 = σ 0 ∧ σ2 0 = σ 0
theorem mlcmp_self (v : Int) : mlcmp v v = 0 := by simp [mlcmp]
def ck_106 (R : mmSt → Prop) (Ln : Nat) : Prop := ∀ a b c : Int, vI a → vI b → vI c → cok R Ln 106 159 [mR 4, mI a, mI b, mI c] [mR 92, mI a, mI b, mI c, mJ]
theorem t_22 {R : mmSt → Prop} {Ln : Nat} (hc : ck_106 R Ln) {σ : mmSt} {z : Int} (h0 : 0 ≤ z) (h1 : z + 6 ≤ (Ln : Int)) (hL : Ln ≤ 384) (hR : R σ) (hv : ∀ j, vI (σ 0 j)) : ∃ σ2, R σ2 ∧ σ2 0 = σ 0 ∧ srun (lyT Ln) (100, 242, 22, [mR 0, mR 4, mR 92, mI z], [], σ) = srun (lyT Ln) (100, 242, 1147, [mR 0, mR 4, mR 92, mI z], [], σ2) := by
  have e1 : mwrap (z + 1) = z + 1 := mwrap_id ⟨by omega, by omega⟩
  have m1 : minb (z + 1) Ln = true := minb_t (by omega) (by omega)
  have e2 : mwrap (z + 2) = z + 2 := mwrap_id ⟨by omega, by omega⟩
  have m2 : minb (z + 2) Ln = true := minb_t (by omega) (by omega)
  have e3 : mwrap (z + 3) = z + 3 := mwrap_id ⟨by omega, by omega⟩
  have m3 : minb (z + 3) Ln = true := minb_t (by omega) (by omega)
  obtain ⟨σ1, v, σ2, h2, h3, h4, h5, h6⟩ := hc (σ 0 (Int.toNat (z + 1))) (σ 0 (Int.toNat (z + 2))) (σ 0 (Int.toNat (z + 3))) (hv _) (hv _) (hv _) σ hR
  refine ⟨σ2, h4, h6, (b_L_law_22 Ln 99 σ z).trans ?_⟩
  simp only [e1, e2, e3, m1, m2, m3, cond_true, h2, Option.bind_some, h5, h3, decide_true]
def ck_107 (R : mmSt → Prop) (Ln : Nat) : Prop := ∀ a b c : Int, vI a → vI b → vI c → cok R Ln 107 160 [mR 4, mI a, mI b, mI c, mJ] [mR 92, mI a, mI b, mI c]
theorem t_59 {R : mmSt → Prop} {Ln : Nat} (hc : ck_107 R Ln) {σ : mmSt} {z : Int} (h0 : 0 ≤ z) (h1 : z + 6 ≤ (Ln : Int)) (hL : Ln ≤ 384) (hR : R σ) (hv : ∀ j, vI (σ 0 j)) : ∃ σ2, R σ2 ∧ σ2 0 = σ 0 ∧ srun (lyT Ln) (100, 242, 59, [mR 0, mR 4, mR 92, mI z], [], σ) = srun (lyT Ln) (100, 242, 1147, [mR 0, mR 4, mR 92, mI z], [], σ2) := by
  have e1 : mwrap (z + 1) = z + 1 := mwrap_id ⟨by omega, by omega⟩
  have m1 : minb (z + 1) Ln = true := minb_t (by omega) (by omega)
  have e2 : mwrap (z + 2) = z + 2 := mwrap_id ⟨by omega, by omega⟩
  have m2 : minb (z + 2) Ln = true := minb_t (by omega) (by omega)
  have e3 : mwrap (z + 3) = z + 3 := mwrap_id ⟨by omega, by omega⟩
  have m3 : minb (z + 3) Ln = true := minb_t (by omega) (by omega)
  obtain ⟨σ1, v, σ2, h2, h3, h4, h5, h6⟩ := hc (σ 0 (Int.toNat (z + 1))) (σ 0 (Int.toNat (z + 2))) (σ 0 (Int.toNat (z + 3))) (hv _) (hv _) (hv _) σ hR
  refine ⟨σ2, h4, h6, (b_L_law_59 Ln 99 σ z).trans ?_⟩
  simp only [e1, e2, e3, m1, m2, m3, cond_true, h2, Option.bind_some, h5, h3, decide_true]
def ck_108 (R : mmSt → Prop) (Ln : Nat) : Prop := ∀ a b c d e : Int, vI a → vI b → vI c → vI d → vI e → cok R Ln 108 161 [mR 4, mI a, mI b, mI c, mI d, mI e, mJ] [mR 92, mI a, mI b, mI c, mI d, mI e, mJ, mJ, mJ]
theorem t_96 {R : mmSt → Prop} {Ln : Nat} (hc : ck_108 R Ln) {σ : mmSt} {z : Int} (h0 : 0 ≤ z) (h1 : z + 6 ≤ (Ln : Int)) (hL : Ln ≤ 384) (hR : R σ) (hv : ∀ j, vI (σ 0 j)) : ∃ σ2, R σ2 ∧ σ2 0 = σ 0 ∧ srun (lyT Ln) (100, 242, 96, [mR 0, mR 4, mR 92, mI z], [], σ) = srun (lyT Ln) (100, 242, 1147, [mR 0, mR 4, mR 92, mI z], [], σ2) := by
  have e1 : mwrap (z + 1) = z + 1 := mwrap_id ⟨by omega, by omega⟩
  have m1 : minb (z + 1) Ln = true := minb_t (by omega) (by omega)
  have e2 : mwrap (z + 2) = z + 2 := mwrap_id ⟨by omega, by omega⟩
  have m2 : minb (z + 2) Ln = true := minb_t (by omega) (by omega)
  have e3 : mwrap (z + 3) = z + 3 := mwrap_id ⟨by omega, by omega⟩
  have m3 : minb (z + 3) Ln = true := minb_t (by omega) (by omega)
  have e4 : mwrap (z + 4) = z + 4 := mwrap_id ⟨by omega, by omega⟩
  have m4 : minb (z + 4) Ln = true := minb_t (by omega) (by omega)
  have e5 : mwrap (z + 5) = z + 5 := mwrap_id ⟨by omega, by omega⟩
  have m5 : minb (z + 5) Ln = true := minb_t (by omega) (by omega)
  obtain ⟨σ1, v, σ2, h2, h3, h4, h5, h6⟩ := hc (σ 0 (Int.toNat (z + 1))) (σ 0 (Int.toNat (z + 2))) (σ 0 (Int.toNat (z + 3))) (σ 0 (Int.toNat (z + 4))) (σ 0 (Int.toNat (z + 5))) (hv _) (hv _) (hv _) (hv _) (hv _) σ hR
  refine ⟨σ2, h4, h6, (b_L_law_96 Ln 99 σ z).trans ?_⟩
  simp only [e1, e2, e3, e4, e5, m1, m2, m3, m4, m5, cond_true, h2, Option.bind_some, h5, h3, decide_true]
def ck_109 (R : mmSt → Prop) (Ln : Nat) : Prop := ∀ a : Int, vI a → cok R Ln 109 162 [mR 4, mI a] [mR 92, mI a]
theorem t_153 {R : mmSt → Prop} {Ln : Nat} (hc : ck_109 R Ln) {σ : mmSt} {z : Int} (h0 : 0 ≤ z) (h1 : z + 6 ≤ (Ln : Int)) (hL : Ln ≤ 384) (hR : R σ) (hv : ∀ j, vI (σ 0 j)) : ∃ σ2, R σ2 ∧ σ2 0 = σ 0 ∧ srun (lyT Ln) (100, 242, 153, [mR 0, mR 4, mR 92, mI z], [], σ) = srun (lyT Ln) (100, 242, 1147, [mR 0, mR 4, mR 92, mI z], [], σ2) := by
  have e1 : mwrap (z + 1) = z + 1 := mwrap_id ⟨by omega, by omega⟩
  have m1 : minb (z + 1) Ln = true := minb_t (by omega) (by omega)
  obtain ⟨σ1, v, σ2, h2, h3, h4, h5, h6⟩ := hc (σ 0 (Int.toNat (z + 1))) (hv _) σ hR
  refine ⟨σ2, h4, h6, (b_L_law_153 Ln 99 σ z).trans ?_⟩
  simp only [e1, m1, cond_true, h2, Option.bind_some, h5, h3, decide_true]
def ck_110 (R : mmSt → Prop) (Ln : Nat) : Prop := ∀ a : Int, vI a → cok R Ln 110 163 [mR 4, mI a] [mR 92, mI a]
theorem t_170 {R : mmSt → Prop} {Ln : Nat} (hc : ck_110 R Ln) {σ : mmSt} {z : Int} (h0 : 0 ≤ z) (h1 : z + 6 ≤ (Ln : Int)) (hL : Ln ≤ 384) (hR : R σ) (hv : ∀ j, vI (σ 0 j)) : ∃ σ2, R σ2 ∧ σ2 0 = σ 0 ∧ srun (lyT Ln) (100, 242, 170, [mR 0, mR 4, mR 92, mI z], [], σ) = srun (lyT Ln) (100, 242, 1147, [mR 0, mR 4, mR 92, mI z], [], σ2) := by
  have e1 : mwrap (z + 1) = z + 1 := mwrap_id ⟨by omega, by omega⟩
  have m1 : minb (z + 1) Ln = true := minb_t (by omega) (by omega)
  obtain ⟨σ1, v, σ2, h2, h3, h4, h5, h6⟩ := hc (σ 0 (Int.toNat (z + 1))) (hv _) σ hR
  refine ⟨σ2, h4, h6, (b_L_law_170 Ln 99 σ z).trans ?_⟩
  simp only [e1, m1, cond_true, h2, Option.bind_some, h5, h3, decide_true]
def ck_111 (R : mmSt → Prop) (Ln : Nat) : Prop := cok R Ln 111 177 [mR 4, mJ] [mR 92, mJ, mJ]
theorem t_187 {R : mmSt → Prop} {Ln : Nat} (hc : ck_111 R Ln) {σ : mmSt} {z : Int} (h0 : 0 ≤ z) (h1 : z + 6 ≤ (Ln : Int)) (hL : Ln ≤ 384) (hR : R σ) (hv : ∀ j, vI (σ 0 j)) : ∃ σ2, R σ2 ∧ σ2 0 = σ 0 ∧ srun (lyT Ln) (100, 242, 187, [mR 0, mR 4, mR 92, mI z], [], σ) = srun (lyT Ln) (100, 242, 1147, [mR 0, mR 4, mR 92, mI z], [], σ2) := by
  obtain ⟨σ1, v, σ2, h2, h3, h4, h5, h6⟩ := hc σ hR
  refine ⟨σ2, h4, h6, (b_L_law_187 Ln 99 σ z).trans ?_⟩
  simp only [cond_true, h2, Option.bind_some, h3, decide_true]
def ck_112 (R : mmSt → Prop) (Ln : Nat) : Prop := cok R Ln 112 172 [mR 4] [mR 92]
theorem t_194 {R : mmSt → Prop} {Ln : Nat} (hc : ck_112 R Ln) {σ : mmSt} {z : Int} (h0 : 0 ≤ z) (h1 : z + 6 ≤ (Ln : Int)) (hL : Ln ≤ 384) (hR : R σ) (hv : ∀ j, vI (σ 0 j)) : ∃ σ2, R σ2 ∧ σ2 0 = σ 0 ∧ srun (lyT Ln) (100, 242, 194, [mR 0, mR 4, mR 92, mI z], [], σ) = srun (lyT Ln) (100, 242, 1147, [mR 0, mR 4, mR 92, mI z], [], σ2) := by
  obtain ⟨σ1, v, σ2, h2, h3, h4, h5, h6⟩ := hc σ hR
  refine ⟨σ2, h4, h6, (b_L_law_194 Ln 99 σ z).trans ?_⟩
  simp only [cond_true, h2, Option.bind_some, h3, decide_true]
def ck_113 (R : mmSt → Prop) (Ln : Nat) : Prop := cok R Ln 113 202 [mR 4] [mR 92, mJ]
theorem t_201 {R : mmSt → Prop} {Ln : Nat} (hc : ck_113 R Ln) {σ : mmSt} {z : Int} (h0 : 0 ≤ z) (h1 : z + 6 ≤ (Ln : Int)) (hL : Ln ≤ 384) (hR : R σ) (hv : ∀ j, vI (σ 0 j)) : ∃ σ2, R σ2 ∧ σ2 0 = σ 0 ∧ srun (lyT Ln) (100, 242, 201, [mR 0, mR 4, mR 92, mI z], [], σ) = srun (lyT Ln) (100, 242, 1147, [mR 0, mR 4, mR 92, mI z], [], σ2) := by
  obtain ⟨σ1, v, σ2, h2, h3, h4, h5, h6⟩ := hc σ hR
  refine ⟨σ2, h4, h6, (b_L_law_201 Ln 99 σ z).trans ?_⟩
  simp only [cond_true, h2, Option.bind_some, h3, decide_true]
def ck_114 (R : mmSt → Prop) (Ln : Nat) : Prop := ∀ a : Int, vI a → cok R Ln 114 197 [mR 4, mI a, mJ] [mR 92, mI a, mJ]
theorem t_208 {R : mmSt → Prop} {Ln : Nat} (hc : ck_114 R Ln) {σ : mmSt} {z : Int} (h0 : 0 ≤ z) (h1 : z + 6 ≤ (Ln : Int)) (hL : Ln ≤ 384) (hR : R σ) (hv : ∀ j, vI (σ 0 j)) : ∃ σ2, R σ2 ∧ σ2 0 = σ 0 ∧ srun (lyT Ln) (100, 242, 208, [mR 0, mR 4, mR 92, mI z], [], σ) = srun (lyT Ln) (100, 242, 1147, [mR 0, mR 4, mR 92, mI z], [], σ2) := by
  have e1 : mwrap (z + 1) = z + 1 := mwrap_id ⟨by omega, by omega⟩
  have m1 : minb (z + 1) Ln = true := minb_t (by omega) (by omega)
  obtain ⟨σ1, v, σ2, h2, h3, h4, h5, h6⟩ := hc (σ 0 (Int.toNat (z + 1))) (hv _) σ hR
  refine ⟨σ2, h4, h6, (b_L_law_208 Ln 99 σ z).trans ?_⟩
  simp only [e1, m1, cond_true, h2, Option.bind_some, h5, h3, decide_true]
def ck_115 (R : mmSt → Prop) (Ln : Nat) : Prop := ∀ a b : Int, vI a → vI b → cok R Ln 115 198 [mR 4, mI a, mI b] [mR 92, mI a, mI b]
theorem t_225 {R : mmSt → Prop} {Ln : Nat} (hc : ck_115 R Ln) {σ : mmSt} {z : Int} (h0 : 0 ≤ z) (h1 : z + 6 ≤ (Ln : Int)) (hL : Ln ≤ 384) (hR : R σ) (hv : ∀ j, vI (σ 0 j)) : ∃ σ2, R σ2 ∧ σ2 0 = σ 0 ∧ srun (lyT Ln) (100, 242, 225, [mR 0, mR 4, mR 92, mI z], [], σ) = srun (lyT Ln) (100, 242, 1147, [mR 0, mR 4, mR 92, mI z], [], σ2) := by
  have e1 : mwrap (z + 1) = z + 1 := mwrap_id ⟨by omega, by omega⟩
  have m1 : minb (z + 1) Ln = true := minb_t (by omega) (by omega)
  have e2 : mwrap (z + 2) = z + 2 := mwrap_id ⟨by omega, by omega⟩
  have m2 : minb (z + 2) Ln = true := minb_t (by omega) (by omega)
  obtain ⟨σ1, v, σ2, h2, h3, h4, h5, h6⟩ := hc (σ 0 (Int.toNat (z + 1))) (σ 0 (Int.toNat (z + 2))) (hv _) (hv _) σ hR
  refine ⟨σ2, h4, h6, (b_L_law_225 Ln 99 σ z).trans ?_⟩
  simp only [e1, e2, m1, m2, cond_true, h2, Option.bind_some, h5, h3, decide_true]
def ck_116 (R : mmSt → Prop) (Ln : Nat) : Prop := ∀ a b : Int, vI a → vI b → cok R Ln 116 199 [mR 4, mI a, mI b, mJ] [mR 92, mI a, mI b, mJ]
theorem t_252 {R : mmSt → Prop} {Ln : Nat} (hc : ck_116 R Ln) {σ : mmSt} {z : Int} (h0 : 0 ≤ z) (h1 : z + 6 ≤ (Ln : Int)) (hL : Ln ≤ 384) (hR : R σ) (hv : ∀ j, vI (σ 0 j)) : ∃ σ2, R σ2 ∧ σ2 0 = σ 0 ∧ srun (lyT Ln) (100, 242, 252, [mR 0, mR 4, mR 92, mI z], [], σ) = srun (lyT Ln) (100, 242, 1147, [mR 0, mR 4, mR 92, mI z], [], σ2) := by
  have e1 : mwrap (z + 1) = z + 1 := mwrap_id ⟨by omega, by omega⟩
  have m1 : minb (z + 1) Ln = true := minb_t (by omega) (by omega)
  have e2 : mwrap (z + 2) = z + 2 := mwrap_id ⟨by omega, by omega⟩
  have m2 : minb (z + 2) Ln = true := minb_t (by omega) (by omega)
  obtain ⟨σ1, v, σ2, h2, h3, h4, h5, h6⟩ := hc (σ 0 (Int.toNat (z + 1))) (σ 0 (Int.toNat (z + 2))) (hv _) (hv _) σ hR
  refine ⟨σ2, h4, h6, (b_L_law_252 Ln 99 σ z).trans ?_⟩
  simp only [e1, e2, m1, m2, cond_true, h2, Option.bind_some, h5, h3, decide_true]
def ck_117 (R : mmSt → Prop) (Ln : Nat) : Prop := ∀ a b : Int, vI a → vI b → cok R Ln 117 200 [mR 4, mI a, mI b, mJ] [mR 92, mI a, mI b, mJ]
theorem t_279 {R : mmSt → Prop} {Ln : Nat} (hc : ck_117 R Ln) {σ : mmSt} {z : Int} (h0 : 0 ≤ z) (h1 : z + 6 ≤ (Ln : Int)) (hL : Ln ≤ 384) (hR : R σ) (hv : ∀ j, vI (σ 0 j)) : ∃ σ2, R σ2 ∧ σ2 0 = σ 0 ∧ srun (lyT Ln) (100, 242, 279, [mR 0, mR 4, mR 92, mI z], [], σ) = srun (lyT Ln) (100, 242, 1147, [mR 0, mR 4, mR 92, mI z], [], σ2) := by
  have e1 : mwrap (z + 1) = z + 1 := mwrap_id ⟨by omega, by omega⟩
  have m1 : minb (z + 1) Ln = true := minb_t (by omega) (by omega)
  have e2 : mwrap (z + 2) = z + 2 := mwrap_id ⟨by omega, by omega⟩
  have m2 : minb (z + 2) Ln = true := minb_t (by omega) (by omega)
  obtain ⟨σ1, v, σ2, h2, h3, h4, h5, h6⟩ := hc (σ 0 (Int.toNat (z + 1))) (σ 0 (Int.toNat (z + 2))) (hv _) (hv _) σ hR
  refine ⟨σ2, h4, h6, (b_L_law_279 Ln 99 σ z).trans ?_⟩
  simp only [e1, e2, m1, m2, cond_true, h2, Option.bind_some, h5, h3, decide_true]
def ck_118 (R : mmSt → Prop) (Ln : Nat) : Prop := ∀ a b : Int, vI a → vI b → cok R Ln 118 201 [mR 4, mI a, mI b, mJ] [mR 92, mI a, mI b, mJ]
theorem t_306 {R : mmSt → Prop} {Ln : Nat} (hc : ck_118 R Ln) {σ : mmSt} {z : Int} (h0 : 0 ≤ z) (h1 : z + 6 ≤ (Ln : Int)) (hL : Ln ≤ 384) (hR : R σ) (hv : ∀ j, vI (σ 0 j)) : ∃ σ2, R σ2 ∧ σ2 0 = σ 0 ∧ srun (lyT Ln) (100, 242, 306, [mR 0, mR 4, mR 92, mI z], [], σ) = srun (lyT Ln) (100, 242, 1147, [mR 0, mR 4, mR 92, mI z], [], σ2) := by
  have e1 : mwrap (z + 1) = z + 1 := mwrap_id ⟨by omega, by omega⟩
  have m1 : minb (z + 1) Ln = true := minb_t (by omega) (by omega)
  have e2 : mwrap (z + 2) = z + 2 := mwrap_id ⟨by omega, by omega⟩
  have m2 : minb (z + 2) Ln = true := minb_t (by omega) (by omega)
  obtain ⟨σ1, v, σ2, h2, h3, h4, h5, h6⟩ := hc (σ 0 (Int.toNat (z + 1))) (σ 0 (Int.toNat (z + 2))) (hv _) (hv _) σ hR
  refine ⟨σ2, h4, h6, (b_L_law_306 Ln 99 σ z).trans ?_⟩
  simp only [e1, e2, m1, m2, cond_true, h2, Option.bind_some, h5, h3, decide_true]
def ck_119 (R : mmSt → Prop) (Ln : Nat) : Prop := ∀ a b : Int, vI a → vI b → cok R Ln 119 203 [mR 4, mI a, mI b] [mR 92, mI a, mI b, mJ, mJ]
theorem t_333 {R : mmSt → Prop} {Ln : Nat} (hc : ck_119 R Ln) {σ : mmSt} {z : Int} (h0 : 0 ≤ z) (h1 : z + 6 ≤ (Ln : Int)) (hL : Ln ≤ 384) (hR : R σ) (hv : ∀ j, vI (σ 0 j)) : ∃ σ2, R σ2 ∧ σ2 0 = σ 0 ∧ srun (lyT Ln) (100, 242, 333, [mR 0, mR 4, mR 92, mI z], [], σ) = srun (lyT Ln) (100, 242, 1147, [mR 0, mR 4, mR 92, mI z], [], σ2) := by
  have e1 : mwrap (z + 1) = z + 1 := mwrap_id ⟨by omega, by omega⟩
  have m1 : minb (z + 1) Ln = true := minb_t (by omega) (by omega)
  have e2 : mwrap (z + 2) = z + 2 := mwrap_id ⟨by omega, by omega⟩
  have m2 : minb (z + 2) Ln = true := minb_t (by omega) (by omega)
  obtain ⟨σ1, v, σ2, h2, h3, h4, h5, h6⟩ := hc (σ 0 (Int.toNat (z + 1))) (σ 0 (Int.toNat (z + 2))) (hv _) (hv _) σ hR
  refine ⟨σ2, h4, h6, (b_L_law_333 Ln 99 σ z).trans ?_⟩
  simp only [e1, e2, m1, m2, cond_true, h2, Option.bind_some, h5, h3, decide_true]
def ck_120 (R : mmSt → Prop) (Ln : Nat) : Prop := ∀ a b : Int, vI a → vI b → cok R Ln 120 204 [mR 4, mI a, mI b] [mR 92, mI a, mI b]
theorem t_360 {R : mmSt → Prop} {Ln : Nat} (hc : ck_120 R Ln) {σ : mmSt} {z : Int} (h0 : 0 ≤ z) (h1 : z + 6 ≤ (Ln : Int)) (hL : Ln ≤ 384) (hR : R σ) (hv : ∀ j, vI (σ 0 j)) : ∃ σ2, R σ2 ∧ σ2 0 = σ 0 ∧ srun (lyT Ln) (100, 242, 360, [mR 0, mR 4, mR 92, mI z], [], σ) = srun (lyT Ln) (100, 242, 1147, [mR 0, mR 4, mR 92, mI z], [], σ2) := by
  have e1 : mwrap (z + 1) = z + 1 := mwrap_id ⟨by omega, by omega⟩
  have m1 : minb (z + 1) Ln = true := minb_t (by omega) (by omega)
  have e2 : mwrap (z + 2) = z + 2 := mwrap_id ⟨by omega, by omega⟩
  have m2 : minb (z + 2) Ln = true := minb_t (by omega) (by omega)
  obtain ⟨σ1, v, σ2, h2, h3, h4, h5, h6⟩ := hc (σ 0 (Int.toNat (z + 1))) (σ 0 (Int.toNat (z + 2))) (hv _) (hv _) σ hR
  refine ⟨σ2, h4, h6, (b_L_law_360 Ln 99 σ z).trans ?_⟩
  simp only [e1, e2, m1, m2, cond_true, h2, Option.bind_some, h5, h3, decide_true]
def ck_121 (R : mmSt → Prop) (Ln : Nat) : Prop := ∀ a b : Int, vI a → vI b → cok R Ln 121 205 [mR 4, mI a, mI b] [mR 92, mI a, mI b, mJ, mJ, mJ]
theorem t_387 {R : mmSt → Prop} {Ln : Nat} (hc : ck_121 R Ln) {σ : mmSt} {z : Int} (h0 : 0 ≤ z) (h1 : z + 6 ≤ (Ln : Int)) (hL : Ln ≤ 384) (hR : R σ) (hv : ∀ j, vI (σ 0 j)) : ∃ σ2, R σ2 ∧ σ2 0 = σ 0 ∧ srun (lyT Ln) (100, 242, 387, [mR 0, mR 4, mR 92, mI z], [], σ) = srun (lyT Ln) (100, 242, 1147, [mR 0, mR 4, mR 92, mI z], [], σ2) := by
  have e1 : mwrap (z + 1) = z + 1 := mwrap_id ⟨by omega, by omega⟩
  have m1 : minb (z + 1) Ln = true := minb_t (by omega) (by omega)
  have e2 : mwrap (z + 2) = z + 2 := mwrap_id ⟨by omega, by omega⟩
  have m2 : minb (z + 2) Ln = true := minb_t (by omega) (by omega)
  obtain ⟨σ1, v, σ2, h2, h3, h4, h5, h6⟩ := hc (σ 0 (Int.toNat (z + 1))) (σ 0 (Int.toNat (z + 2))) (hv _) (hv _) σ hR
  refine ⟨σ2, h4, h6, (b_L_law_387 Ln 99 σ z).trans ?_⟩
  simp only [e1, e2, m1, m2, cond_true, h2, Option.bind_some, h5, h3, decide_true]
def ck_122 (R : mmSt → Prop) (Ln : Nat) : Prop := ∀ a b c : Int, vI a → vI b → vI c → cok R Ln 122 206 [mR 4, mI a, mI b, mI c] [mR 92, mI a, mI b, mI c]
theorem t_414 {R : mmSt → Prop} {Ln : Nat} (hc : ck_122 R Ln) {σ : mmSt} {z : Int} (h0 : 0 ≤ z) (h1 : z + 6 ≤ (Ln : Int)) (hL : Ln ≤ 384) (hR : R σ) (hv : ∀ j, vI (σ 0 j)) : ∃ σ2, R σ2 ∧ σ2 0 = σ 0 ∧ srun (lyT Ln) (100, 242, 414, [mR 0, mR 4, mR 92, mI z], [], σ) = srun (lyT Ln) (100, 242, 1147, [mR 0, mR 4, mR 92, mI z], [], σ2) := by
  have e1 : mwrap (z + 1) = z + 1 := mwrap_id ⟨by omega, by omega⟩
  have m1 : minb (z + 1) Ln = true := minb_t (by omega) (by omega)
  have e2 : mwrap (z + 2) = z + 2 := mwrap_id ⟨by omega, by omega⟩
  have m2 : minb (z + 2) Ln = true := minb_t (by omega) (by omega)
  have e3 : mwrap (z + 3) = z + 3 := mwrap_id ⟨by omega, by omega⟩
  have m3 : minb (z + 3) Ln = true := minb_t (by omega) (by omega)
  obtain ⟨σ1, v, σ2, h2, h3, h4, h5, h6⟩ := hc (σ 0 (Int.toNat (z + 1))) (σ 0 (Int.toNat (z + 2))) (σ 0 (Int.toNat (z + 3))) (hv _) (hv _) (hv _) σ hR
  refine ⟨σ2, h4, h6, (b_L_law_414 Ln 99 σ z).trans ?_⟩
  simp only [e1, e2, e3, m1, m2, m3, cond_true, h2, Option.bind_some, h5, h3, decide_true]
def ck_123 (R : mmSt → Prop) (Ln : Nat) : Prop := ∀ a b : Int, vI a → vI b → cok R Ln 123 207 [mR 4, mI a, mI b] [mR 92, mI a, mI b]
theorem t_451 {R : mmSt → Prop} {Ln : Nat} (hc : ck_123 R Ln) {σ : mmSt} {z : Int} (h0 : 0 ≤ z) (h1 : z + 6 ≤ (Ln : Int)) (hL : Ln ≤ 384) (hR : R σ) (hv : ∀ j, vI (σ 0 j)) : ∃ σ2, R σ2 ∧ σ2 0 = σ 0 ∧ srun (lyT Ln) (100, 242, 451, [mR 0, mR 4, mR 92, mI z], [], σ) = srun (lyT Ln) (100, 242, 1147, [mR 0, mR 4, mR 92, mI z], [], σ2) := by
  have e1 : mwrap (z + 1) = z + 1 := mwrap_id ⟨by omega, by omega⟩
  have m1 : minb (z + 1) Ln = true := minb_t (by omega) (by omega)
  have e2 : mwrap (z + 2) = z + 2 := mwrap_id ⟨by omega, by omega⟩
  have m2 : minb (z + 2) Ln = true := minb_t (by omega) (by omega)
  obtain ⟨σ1, v, σ2, h2, h3, h4, h5, h6⟩ := hc (σ 0 (Int.toNat (z + 1))) (σ 0 (Int.toNat (z + 2))) (hv _) (hv _) σ hR
  refine ⟨σ2, h4, h6, (b_L_law_451 Ln 99 σ z).trans ?_⟩
  simp only [e1, e2, m1, m2, cond_true, h2, Option.bind_some, h5, h3, decide_true]
def ck_124 (R : mmSt → Prop) (Ln : Nat) : Prop := ∀ a : Int, vI a → cok R Ln 124 209 [mR 4, mI a] [mR 92, mI a]
theorem t_478 {R : mmSt → Prop} {Ln : Nat} (hc : ck_124 R Ln) {σ : mmSt} {z : Int} (h0 : 0 ≤ z) (h1 : z + 6 ≤ (Ln : Int)) (hL : Ln ≤ 384) (hR : R σ) (hv : ∀ j, vI (σ 0 j)) : ∃ σ2, R σ2 ∧ σ2 0 = σ 0 ∧ srun (lyT Ln) (100, 242, 478, [mR 0, mR 4, mR 92, mI z], [], σ) = srun (lyT Ln) (100, 242, 1147, [mR 0, mR 4, mR 92, mI z], [], σ2) := by
  have e1 : mwrap (z + 1) = z + 1 := mwrap_id ⟨by omega, by omega⟩
  have m1 : minb (z + 1) Ln = true := minb_t (by omega) (by omega)
  obtain ⟨σ1, v, σ2, h2, h3, h4, h5, h6⟩ := hc (σ 0 (Int.toNat (z + 1))) (hv _) σ hR
  refine ⟨σ2, h4, h6, (b_L_law_478 Ln 99 σ z).trans ?_⟩
  simp only [e1, m1, cond_true, h2, Option.bind_some, h5, h3, decide_true]
def ck_125 (R : mmSt → Prop) (Ln : Nat) : Prop := ∀ a b : Int, vI a → vI b → cok R Ln 125 210 [mR 4, mI a, mI b] [mR 92, mI a, mI b, mJ]
theorem t_495 {R : mmSt → Prop} {Ln : Nat} (hc : ck_125 R Ln) {σ : mmSt} {z : Int} (h0 : 0 ≤ z) (h1 : z + 6 ≤ (Ln : Int)) (hL : Ln ≤ 384) (hR : R σ) (hv : ∀ j, vI (σ 0 j)) : ∃ σ2, R σ2 ∧ σ2 0 = σ 0 ∧ srun (lyT Ln) (100, 242, 495, [mR 0, mR 4, mR 92, mI z], [], σ) = srun (lyT Ln) (100, 242, 1147, [mR 0, mR 4, mR 92, mI z], [], σ2) := by
  have e1 : mwrap (z + 1) = z + 1 := mwrap_id ⟨by omega, by omega⟩
  have m1 : minb (z + 1) Ln = true := minb_t (by omega) (by omega)
  have e2 : mwrap (z + 2) = z + 2 := mwrap_id ⟨by omega, by omega⟩
  have m2 : minb (z + 2) Ln = true := minb_t (by omega) (by omega)
  obtain ⟨σ1, v, σ2, h2, h3, h4, h5, h6⟩ := hc (σ 0 (Int.toNat (z + 1))) (σ 0 (Int.toNat (z + 2))) (hv _) (hv _) σ hR
  refine ⟨σ2, h4, h6, (b_L_law_495 Ln 99 σ z).trans ?_⟩
  simp only [e1, e2, m1, m2, cond_true, h2, Option.bind_some, h5, h3, decide_true]
def ck_126 (R : mmSt → Prop) (Ln : Nat) : Prop := ∀ a b : Int, vI a → vI b → cok R Ln 126 211 [mR 4, mI a, mI b] [mR 92, mI a, mI b, mJ]
theorem t_522 {R : mmSt → Prop} {Ln : Nat} (hc : ck_126 R Ln) {σ : mmSt} {z : Int} (h0 : 0 ≤ z) (h1 : z + 6 ≤ (Ln : Int)) (hL : Ln ≤ 384) (hR : R σ) (hv : ∀ j, vI (σ 0 j)) : ∃ σ2, R σ2 ∧ σ2 0 = σ 0 ∧ srun (lyT Ln) (100, 242, 522, [mR 0, mR 4, mR 92, mI z], [], σ) = srun (lyT Ln) (100, 242, 1147, [mR 0, mR 4, mR 92, mI z], [], σ2) := by
  have e1 : mwrap (z + 1) = z + 1 := mwrap_id ⟨by omega, by omega⟩
  have m1 : minb (z + 1) Ln = true := minb_t (by omega) (by omega)
  have e2 : mwrap (z + 2) = z + 2 := mwrap_id ⟨by omega, by omega⟩
  have m2 : minb (z + 2) Ln = true := minb_t (by omega) (by omega)
  obtain ⟨σ1, v, σ2, h2, h3, h4, h5, h6⟩ := hc (σ 0 (Int.toNat (z + 1))) (σ 0 (Int.toNat (z + 2))) (hv _) (hv _) σ hR
  refine ⟨σ2, h4, h6, (b_L_law_522 Ln 99 σ z).trans ?_⟩
  simp only [e1, e2, m1, m2, cond_true, h2, Option.bind_some, h5, h3, decide_true]
def ck_127 (R : mmSt → Prop) (Ln : Nat) : Prop := ∀ a : Int, vI a → cok R Ln 127 212 [mR 4, mI a] [mR 92, mI a, mJ, mJ]
theorem t_549 {R : mmSt → Prop} {Ln : Nat} (hc : ck_127 R Ln) {σ : mmSt} {z : Int} (h0 : 0 ≤ z) (h1 : z + 6 ≤ (Ln : Int)) (hL : Ln ≤ 384) (hR : R σ) (hv : ∀ j, vI (σ 0 j)) : ∃ σ2, R σ2 ∧ σ2 0 = σ 0 ∧ srun (lyT Ln) (100, 242, 549, [mR 0, mR 4, mR 92, mI z], [], σ) = srun (lyT Ln) (100, 242, 1147, [mR 0, mR 4, mR 92, mI z], [], σ2) := by
  have e1 : mwrap (z + 1) = z + 1 := mwrap_id ⟨by omega, by omega⟩
  have m1 : minb (z + 1) Ln = true := minb_t (by omega) (by omega)
  obtain ⟨σ1, v, σ2, h2, h3, h4, h5, h6⟩ := hc (σ 0 (Int.toNat (z + 1))) (hv _) σ hR
  refine ⟨σ2, h4, h6, (b_L_law_549 Ln 99 σ z).trans ?_⟩
  simp only [e1, m1, cond_true, h2, Option.bind_some, h5, h3, decide_true]
def ck_128 (R : mmSt → Prop) (Ln : Nat) : Prop := ∀ a b c : Int, vI a → vI b → vI c → cok R Ln 128 213 [mR 4, mI a, mI b, mI c] [mR 92, mI a, mI b, mI c, mJ, mJ, mJ, mJ, mJ]
theorem t_566 {R : mmSt → Prop} {Ln : Nat} (hc : ck_128 R Ln) {σ : mmSt} {z : Int} (h0 : 0 ≤ z) (h1 : z + 6 ≤ (Ln : Int)) (hL : Ln ≤ 384) (hR : R σ) (hv : ∀ j, vI (σ 0 j)) : ∃ σ2, R σ2 ∧ σ2 0 = σ 0 ∧ srun (lyT Ln) (100, 242, 566, [mR 0, mR 4, mR 92, mI z], [], σ) = srun (lyT Ln) (100, 242, 1147, [mR 0, mR 4, mR 92, mI z], [], σ2) := by
  have e1 : mwrap (z + 1) = z + 1 := mwrap_id ⟨by omega, by omega⟩
  have m1 : minb (z + 1) Ln = true := minb_t (by omega) (by omega)
  have e2 : mwrap (z + 2) = z + 2 := mwrap_id ⟨by omega, by omega⟩
  have m2 : minb (z + 2) Ln = true := minb_t (by omega) (by omega)
  have e3 : mwrap (z + 3) = z + 3 := mwrap_id ⟨by omega, by omega⟩
  have m3 : minb (z + 3) Ln = true := minb_t (by omega) (by omega)
  obtain ⟨σ1, v, σ2, h2, h3, h4, h5, h6⟩ := hc (σ 0 (Int.toNat (z + 1))) (σ 0 (Int.toNat (z + 2))) (σ 0 (Int.toNat (z + 3))) (hv _) (hv _) (hv _) σ hR
  refine ⟨σ2, h4, h6, (b_L_law_566 Ln 99 σ z).trans ?_⟩
  simp only [e1, e2, e3, m1, m2, m3, cond_true, h2, Option.bind_some, h5, h3, decide_true]
def ck_129 (R : mmSt → Prop) (Ln : Nat) : Prop := ∀ a b c d : Int, vI a → vI b → vI c → vI d → cok R Ln 129 214 [mR 4, mI a, mI b, mI c, mI d] [mR 92, mI a, mI b, mI c, mI d, mJ, mJ, mJ]
theorem t_603 {R : mmSt → Prop} {Ln : Nat} (hc : ck_129 R Ln) {σ : mmSt} {z : Int} (h0 : 0 ≤ z) (h1 : z + 6 ≤ (Ln : Int)) (hL : Ln ≤ 384) (hR : R σ) (hv : ∀ j, vI (σ 0 j)) : ∃ σ2, R σ2 ∧ σ2 0 = σ 0 ∧ srun (lyT Ln) (100, 242, 603, [mR 0, mR 4, mR 92, mI z], [], σ) = srun (lyT Ln) (100, 242, 1147, [mR 0, mR 4, mR 92, mI z], [], σ2) := by
  have e1 : mwrap (z + 1) = z + 1 := mwrap_id ⟨by omega, by omega⟩
  have m1 : minb (z + 1) Ln = true := minb_t (by omega) (by omega)
  have e2 : mwrap (z + 2) = z + 2 := mwrap_id ⟨by omega, by omega⟩
  have m2 : minb (z + 2) Ln = true := minb_t (by omega) (by omega)
  have e3 : mwrap (z + 3) = z + 3 := mwrap_id ⟨by omega, by omega⟩
  have m3 : minb (z + 3) Ln = true := minb_t (by omega) (by omega)
  have e4 : mwrap (z + 4) = z + 4 := mwrap_id ⟨by omega, by omega⟩
  have m4 : minb (z + 4) Ln = true := minb_t (by omega) (by omega)
  obtain ⟨σ1, v, σ2, h2, h3, h4, h5, h6⟩ := hc (σ 0 (Int.toNat (z + 1))) (σ 0 (Int.toNat (z + 2))) (σ 0 (Int.toNat (z + 3))) (σ 0 (Int.toNat (z + 4))) (hv _) (hv _) (hv _) (hv _) σ hR
  refine ⟨σ2, h4, h6, (b_L_law_603 Ln 99 σ z).trans ?_⟩
  simp only [e1, e2, e3, e4, m1, m2, m3, m4, cond_true, h2, Option.bind_some, h5, h3, decide_true]
def ck_130 (R : mmSt → Prop) (Ln : Nat) : Prop := ∀ a b : Int, vI a → vI b → cok R Ln 130 215 [mR 4, mI a, mI b, mJ] [mR 92, mI a, mI b, mJ, mJ, mJ, mJ, mJ]
theorem t_650 {R : mmSt → Prop} {Ln : Nat} (hc : ck_130 R Ln) {σ : mmSt} {z : Int} (h0 : 0 ≤ z) (h1 : z + 6 ≤ (Ln : Int)) (hL : Ln ≤ 384) (hR : R σ) (hv : ∀ j, vI (σ 0 j)) : ∃ σ2, R σ2 ∧ σ2 0 = σ 0 ∧ srun (lyT Ln) (100, 242, 650, [mR 0, mR 4, mR 92, mI z], [], σ) = srun (lyT Ln) (100, 242, 1147, [mR 0, mR 4, mR 92, mI z], [], σ2) := by
  have e1 : mwrap (z + 1) = z + 1 := mwrap_id ⟨by omega, by omega⟩
  have m1 : minb (z + 1) Ln = true := minb_t (by omega) (by omega)
  have e2 : mwrap (z + 2) = z + 2 := mwrap_id ⟨by omega, by omega⟩
  have m2 : minb (z + 2) Ln = true := minb_t (by omega) (by omega)
  obtain ⟨σ1, v, σ2, h2, h3, h4, h5, h6⟩ := hc (σ 0 (Int.toNat (z + 1))) (σ 0 (Int.toNat (z + 2))) (hv _) (hv _) σ hR
  refine ⟨σ2, h4, h6, (b_L_law_650 Ln 99 σ z).trans ?_⟩
  simp only [e1, e2, m1, m2, cond_true, h2, Option.bind_some, h5, h3, decide_true]
def ck_131 (R : mmSt → Prop) (Ln : Nat) : Prop := ∀ a b : Int, vI a → vI b → cok R Ln 131 217 [mR 4, mI a, mI b] [mR 92, mI a, mI b, mJ]
theorem t_677 {R : mmSt → Prop} {Ln : Nat} (hc : ck_131 R Ln) {σ : mmSt} {z : Int} (h0 : 0 ≤ z) (h1 : z + 6 ≤ (Ln : Int)) (hL : Ln ≤ 384) (hR : R σ) (hv : ∀ j, vI (σ 0 j)) : ∃ σ2, R σ2 ∧ σ2 0 = σ 0 ∧ srun (lyT Ln) (100, 242, 677, [mR 0, mR 4, mR 92, mI z], [], σ) = srun (lyT Ln) (100, 242, 1147, [mR 0, mR 4, mR 92, mI z], [], σ2) := by
  have e1 : mwrap (z + 1) = z + 1 := mwrap_id ⟨by omega, by omega⟩
  have m1 : minb (z + 1) Ln = true := minb_t (by omega) (by omega)
  have e2 : mwrap (z + 2) = z + 2 := mwrap_id ⟨by omega, by omega⟩
  have m2 : minb (z + 2) Ln = true := minb_t (by omega) (by omega)
  obtain ⟨σ1, v, σ2, h2, h3, h4, h5, h6⟩ := hc (σ 0 (Int.toNat (z + 1))) (σ 0 (Int.toNat (z + 2))) (hv _) (hv _) σ hR
  refine ⟨σ2, h4, h6, (b_L_law_677 Ln 99 σ z).trans ?_⟩
  simp only [e1, e2, m1, m2, cond_true, h2, Option.bind_some, h5, h3, decide_true]
def ck_132 (R : mmSt → Prop) (Ln : Nat) : Prop := ∀ a : Int, vI a → cok R Ln 132 218 [mR 4, mI a] [mR 92, mI a]
theorem t_704 {R : mmSt → Prop} {Ln : Nat} (hc : ck_132 R Ln) {σ : mmSt} {z : Int} (h0 : 0 ≤ z) (h1 : z + 6 ≤ (Ln : Int)) (hL : Ln ≤ 384) (hR : R σ) (hv : ∀ j, vI (σ 0 j)) : ∃ σ2, R σ2 ∧ σ2 0 = σ 0 ∧ srun (lyT Ln) (100, 242, 704, [mR 0, mR 4, mR 92, mI z], [], σ) = srun (lyT Ln) (100, 242, 1147, [mR 0, mR 4, mR 92, mI z], [], σ2) := by
  have e1 : mwrap (z + 1) = z + 1 := mwrap_id ⟨by omega, by omega⟩
  have m1 : minb (z + 1) Ln = true := minb_t (by omega) (by omega)
  obtain ⟨σ1, v, σ2, h2, h3, h4, h5, h6⟩ := hc (σ 0 (Int.toNat (z + 1))) (hv _) σ hR
  refine ⟨σ2, h4, h6, (b_L_law_704 Ln 99 σ z).trans ?_⟩
  simp only [e1, m1, cond_true, h2, Option.bind_some, h5, h3, decide_true]
def ck_133 (R : mmSt → Prop) (Ln : Nat) : Prop := cok R Ln 133 219 [mR 4] [mR 92, mJ, mJ]
theorem t_721 {R : mmSt → Prop} {Ln : Nat} (hc : ck_133 R Ln) {σ : mmSt} {z : Int} (h0 : 0 ≤ z) (h1 : z + 6 ≤ (Ln : Int)) (hL : Ln ≤ 384) (hR : R σ) (hv : ∀ j, vI (σ 0 j)) : ∃ σ2, R σ2 ∧ σ2 0 = σ 0 ∧ srun (lyT Ln) (100, 242, 721, [mR 0, mR 4, mR 92, mI z], [], σ) = srun (lyT Ln) (100, 242, 1147, [mR 0, mR 4, mR 92, mI z], [], σ2) := by
  obtain ⟨σ1, v, σ2, h2, h3, h4, h5, h6⟩ := hc σ hR
  refine ⟨σ2, h4, h6, (b_L_law_721 Ln 99 σ z).trans ?_⟩
  simp only [cond_true, h2, Option.bind_some, h3, decide_true]
def ck_134 (R : mmSt → Prop) (Ln : Nat) : Prop := ∀ a b : Int, vI a → vI b → cok R Ln 134 220 [mR 4, mI a, mI b, mJ] [mR 92, mI a, mI b, mJ, mJ]
theorem t_728 {R : mmSt → Prop} {Ln : Nat} (hc : ck_134 R Ln) {σ : mmSt} {z : Int} (h0 : 0 ≤ z) (h1 : z + 6 ≤ (Ln : Int)) (hL : Ln ≤ 384) (hR : R σ) (hv : ∀ j, vI (σ 0 j)) : ∃ σ2, R σ2 ∧ σ2 0 = σ 0 ∧ srun (lyT Ln) (100, 242, 728, [mR 0, mR 4, mR 92, mI z], [], σ) = srun (lyT Ln) (100, 242, 1147, [mR 0, mR 4, mR 92, mI z], [], σ2) := by
  have e1 : mwrap (z + 1) = z + 1 := mwrap_id ⟨by omega, by omega⟩
  have m1 : minb (z + 1) Ln = true := minb_t (by omega) (by omega)
  have e2 : mwrap (z + 2) = z + 2 := mwrap_id ⟨by omega, by omega⟩
  have m2 : minb (z + 2) Ln = true := minb_t (by omega) (by omega)
  obtain ⟨σ1, v, σ2, h2, h3, h4, h5, h6⟩ := hc (σ 0 (Int.toNat (z + 1))) (σ 0 (Int.toNat (z + 2))) (hv _) (hv _) σ hR
  refine ⟨σ2, h4, h6, (b_L_law_728 Ln 99 σ z).trans ?_⟩
  simp only [e1, e2, m1, m2, cond_true, h2, Option.bind_some, h5, h3, decide_true]
def ck_135 (R : mmSt → Prop) (Ln : Nat) : Prop := ∀ a b c d e : Int, vI a → vI b → vI c → vI d → vI e → cok R Ln 135 223 [mR 4, mI a, mI b, mI c, mI d, mI e, mJ] [mR 92, mI a, mI b, mI c, mI d, mI e, mJ, mJ, mJ, mJ]
theorem t_755 {R : mmSt → Prop} {Ln : Nat} (hc : ck_135 R Ln) {σ : mmSt} {z : Int} (h0 : 0 ≤ z) (h1 : z + 6 ≤ (Ln : Int)) (hL : Ln ≤ 384) (hR : R σ) (hv : ∀ j, vI (σ 0 j)) : ∃ σ2, R σ2 ∧ σ2 0 = σ 0 ∧ srun (lyT Ln) (100, 242, 755, [mR 0, mR 4, mR 92, mI z], [], σ) = srun (lyT Ln) (100, 242, 1147, [mR 0, mR 4, mR 92, mI z], [], σ2) := by
  have e1 : mwrap (z + 1) = z + 1 := mwrap_id ⟨by omega, by omega⟩
  have m1 : minb (z + 1) Ln = true := minb_t (by omega) (by omega)
  have e2 : mwrap (z + 2) = z + 2 := mwrap_id ⟨by omega, by omega⟩
  have m2 : minb (z + 2) Ln = true := minb_t (by omega) (by omega)
  have e3 : mwrap (z + 3) = z + 3 := mwrap_id ⟨by omega, by omega⟩
  have m3 : minb (z + 3) Ln = true := minb_t (by omega) (by omega)
  have e4 : mwrap (z + 4) = z + 4 := mwrap_id ⟨by omega, by omega⟩
  have m4 : minb (z + 4) Ln = true := minb_t (by omega) (by omega)
  have e5 : mwrap (z + 5) = z + 5 := mwrap_id ⟨by omega, by omega⟩
  have m5 : minb (z + 5) Ln = true := minb_t (by omega) (by omega)
  obtain ⟨σ1, v, σ2, h2, h3, h4, h5, h6⟩ := hc (σ 0 (Int.toNat (z + 1))) (σ 0 (Int.toNat (z + 2))) (σ 0 (Int.toNat (z + 3))) (σ 0 (Int.toNat (z + 4))) (σ 0 (Int.toNat (z + 5))) (hv _) (hv _) (hv _) (hv _) (hv _) σ hR
  refine ⟨σ2, h4, h6, (b_L_law_755 Ln 99 σ z).trans ?_⟩
  simp only [e1, e2, e3, e4, e5, m1, m2, m3, m4, m5, cond_true, h2, Option.bind_some, h5, h3, decide_true]
def ck_136 (R : mmSt → Prop) (Ln : Nat) : Prop := ∀ a b c d e : Int, vI a → vI b → vI c → vI d → vI e → cok R Ln 136 224 [mR 4, mI a, mI b, mI c, mI d, mI e, mJ] [mR 92, mI a, mI b, mI c, mI d, mI e, mJ, mJ, mJ]
theorem t_812 {R : mmSt → Prop} {Ln : Nat} (hc : ck_136 R Ln) {σ : mmSt} {z : Int} (h0 : 0 ≤ z) (h1 : z + 6 ≤ (Ln : Int)) (hL : Ln ≤ 384) (hR : R σ) (hv : ∀ j, vI (σ 0 j)) : ∃ σ2, R σ2 ∧ σ2 0 = σ 0 ∧ srun (lyT Ln) (100, 242, 812, [mR 0, mR 4, mR 92, mI z], [], σ) = srun (lyT Ln) (100, 242, 1147, [mR 0, mR 4, mR 92, mI z], [], σ2) := by
  have e1 : mwrap (z + 1) = z + 1 := mwrap_id ⟨by omega, by omega⟩
  have m1 : minb (z + 1) Ln = true := minb_t (by omega) (by omega)
  have e2 : mwrap (z + 2) = z + 2 := mwrap_id ⟨by omega, by omega⟩
  have m2 : minb (z + 2) Ln = true := minb_t (by omega) (by omega)
  have e3 : mwrap (z + 3) = z + 3 := mwrap_id ⟨by omega, by omega⟩
  have m3 : minb (z + 3) Ln = true := minb_t (by omega) (by omega)
  have e4 : mwrap (z + 4) = z + 4 := mwrap_id ⟨by omega, by omega⟩
  have m4 : minb (z + 4) Ln = true := minb_t (by omega) (by omega)
  have e5 : mwrap (z + 5) = z + 5 := mwrap_id ⟨by omega, by omega⟩
  have m5 : minb (z + 5) Ln = true := minb_t (by omega) (by omega)
  obtain ⟨σ1, v, σ2, h2, h3, h4, h5, h6⟩ := hc (σ 0 (Int.toNat (z + 1))) (σ 0 (Int.toNat (z + 2))) (σ 0 (Int.toNat (z + 3))) (σ 0 (Int.toNat (z + 4))) (σ 0 (Int.toNat (z + 5))) (hv _) (hv _) (hv _) (hv _) (hv _) σ hR
  refine ⟨σ2, h4, h6, (b_L_law_812 Ln 99 σ z).trans ?_⟩
  simp only [e1, e2, e3, e4, e5, m1, m2, m3, m4, m5, cond_true, h2, Option.bind_some, h5, h3, decide_true]
def ck_137 (R : mmSt → Prop) (Ln : Nat) : Prop := ∀ a b c : Int, vI a → vI b → vI c → cok R Ln 137 225 [mR 4, mI a, mI b, mI c, mJ] [mR 92, mI a, mI b, mI c, mJ, mJ, mJ]
theorem t_869 {R : mmSt → Prop} {Ln : Nat} (hc : ck_137 R Ln) {σ : mmSt} {z : Int} (h0 : 0 ≤ z) (h1 : z + 6 ≤ (Ln : Int)) (hL : Ln ≤ 384) (hR : R σ) (hv : ∀ j, vI (σ 0 j)) : ∃ σ2, R σ2 ∧ σ2 0 = σ 0 ∧ srun (lyT Ln) (100, 242, 869, [mR 0, mR 4, mR 92, mI z], [], σ) = srun (lyT Ln) (100, 242, 1147, [mR 0, mR 4, mR 92, mI z], [], σ2) := by
  have e1 : mwrap (z + 1) = z + 1 := mwrap_id ⟨by omega, by omega⟩
  have m1 : minb (z + 1) Ln = true := minb_t (by omega) (by omega)
  have e2 : mwrap (z + 2) = z + 2 := mwrap_id ⟨by omega, by omega⟩
  have m2 : minb (z + 2) Ln = true := minb_t (by omega) (by omega)
  have e3 : mwrap (z + 3) = z + 3 := mwrap_id ⟨by omega, by omega⟩
  have m3 : minb (z + 3) Ln = true := minb_t (by omega) (by omega)
  obtain ⟨σ1, v, σ2, h2, h3, h4, h5, h6⟩ := hc (σ 0 (Int.toNat (z + 1))) (σ 0 (Int.toNat (z + 2))) (σ 0 (Int.toNat (z + 3))) (hv _) (hv _) (hv _) σ hR
  refine ⟨σ2, h4, h6, (b_L_law_869 Ln 99 σ z).trans ?_⟩
  simp only [e1, e2, e3, m1, m2, m3, cond_true, h2, Option.bind_some, h5, h3, decide_true]
def ck_138 (R : mmSt → Prop) (Ln : Nat) : Prop := ∀ a b c d e : Int, vI a → vI b → vI c → vI d → vI e → cok R Ln 138 226 [mR 4, mI a, mI b, mI c, mI d, mI e, mJ, mJ, mJ, mJ, mJ, mJ] [mR 92, mI a, mI b, mI c, mI d, mI e, mJ, mJ, mJ, mJ, mJ, mJ, mJ, mJ, mJ, mJ, mJ]
theorem t_906 {R : mmSt → Prop} {Ln : Nat} (hc : ck_138 R Ln) {σ : mmSt} {z : Int} (h0 : 0 ≤ z) (h1 : z + 6 ≤ (Ln : Int)) (hL : Ln ≤ 384) (hR : R σ) (hv : ∀ j, vI (σ 0 j)) : ∃ σ2, R σ2 ∧ σ2 0 = σ 0 ∧ srun (lyT Ln) (100, 242, 906, [mR 0, mR 4, mR 92, mI z], [], σ) = srun (lyT Ln) (100, 242, 1147, [mR 0, mR 4, mR 92, mI z], [], σ2) := by
  have e1 : mwrap (z + 1) = z + 1 := mwrap_id ⟨by omega, by omega⟩
  have m1 : minb (z + 1) Ln = true := minb_t (by omega) (by omega)
  have e2 : mwrap (z + 2) = z + 2 := mwrap_id ⟨by omega, by omega⟩
  have m2 : minb (z + 2) Ln = true := minb_t (by omega) (by omega)
  have e3 : mwrap (z + 3) = z + 3 := mwrap_id ⟨by omega, by omega⟩
  have m3 : minb (z + 3) Ln = true := minb_t (by omega) (by omega)
  have e4 : mwrap (z + 4) = z + 4 := mwrap_id ⟨by omega, by omega⟩
  have m4 : minb (z + 4) Ln = true := minb_t (by omega) (by omega)
  have e5 : mwrap (z + 5) = z + 5 := mwrap_id ⟨by omega, by omega⟩
  have m5 : minb (z + 5) Ln = true := minb_t (by omega) (by omega)
  obtain ⟨σ1, v, σ2, h2, h3, h4, h5, h6⟩ := hc (σ 0 (Int.toNat (z + 1))) (σ 0 (Int.toNat (z + 2))) (σ 0 (Int.toNat (z + 3))) (σ 0 (Int.toNat (z + 4))) (σ 0 (Int.toNat (z + 5))) (hv _) (hv _) (hv _) (hv _) (hv _) σ hR
  refine ⟨σ2, h4, h6, (b_L_law_906 Ln 99 σ z).trans ?_⟩
  simp only [e1, e2, e3, e4, e5, m1, m2, m3, m4, m5, cond_true, h2, Option.bind_some, h5, h3, mlcmp_self, decide_true]
def ck_139 (R : mmSt → Prop) (Ln : Nat) : Prop := ∀ a b c : Int, vI a → vI b → vI c → cok R Ln 139 227 [mR 4, mI a, mI b, mI c] [mR 92, mI a, mI b, mI c, mJ, mJ, mJ, mJ]
theorem t_964 {R : mmSt → Prop} {Ln : Nat} (hc : ck_139 R Ln) {σ : mmSt} {z : Int} (h0 : 0 ≤ z) (h1 : z + 6 ≤ (Ln : Int)) (hL : Ln ≤ 384) (hR : R σ) (hv : ∀ j, vI (σ 0 j)) : ∃ σ2, R σ2 ∧ σ2 0 = σ 0 ∧ srun (lyT Ln) (100, 242, 964, [mR 0, mR 4, mR 92, mI z], [], σ) = srun (lyT Ln) (100, 242, 1147, [mR 0, mR 4, mR 92, mI z], [], σ2) := by
  have e1 : mwrap (z + 1) = z + 1 := mwrap_id ⟨by omega, by omega⟩
  have m1 : minb (z + 1) Ln = true := minb_t (by omega) (by omega)
  have e2 : mwrap (z + 2) = z + 2 := mwrap_id ⟨by omega, by omega⟩
  have m2 : minb (z + 2) Ln = true := minb_t (by omega) (by omega)
  have e3 : mwrap (z + 3) = z + 3 := mwrap_id ⟨by omega, by omega⟩
  have m3 : minb (z + 3) Ln = true := minb_t (by omega) (by omega)
  obtain ⟨σ1, v, σ2, h2, h3, h4, h5, h6⟩ := hc (σ 0 (Int.toNat (z + 1))) (σ 0 (Int.toNat (z + 2))) (σ 0 (Int.toNat (z + 3))) (hv _) (hv _) (hv _) σ hR
  refine ⟨σ2, h4, h6, (b_L_law_964 Ln 99 σ z).trans ?_⟩
  simp only [e1, e2, e3, m1, m2, m3, cond_true, h2, Option.bind_some, h5, h3, decide_true]
def ck_140 (R : mmSt → Prop) (Ln : Nat) : Prop := ∀ a : Int, vI a → cok R Ln 140 228 [mR 4, mI a] [mR 92, mI a, mJ]
theorem t_1001 {R : mmSt → Prop} {Ln : Nat} (hc : ck_140 R Ln) {σ : mmSt} {z : Int} (h0 : 0 ≤ z) (h1 : z + 6 ≤ (Ln : Int)) (hL : Ln ≤ 384) (hR : R σ) (hv : ∀ j, vI (σ 0 j)) : ∃ σ2, R σ2 ∧ σ2 0 = σ 0 ∧ srun (lyT Ln) (100, 242, 1001, [mR 0, mR 4, mR 92, mI z], [], σ) = srun (lyT Ln) (100, 242, 1147, [mR 0, mR 4, mR 92, mI z], [], σ2) := by
  have e1 : mwrap (z + 1) = z + 1 := mwrap_id ⟨by omega, by omega⟩
  have m1 : minb (z + 1) Ln = true := minb_t (by omega) (by omega)
  obtain ⟨σ1, v, σ2, h2, h3, h4, h5, h6⟩ := hc (σ 0 (Int.toNat (z + 1))) (hv _) σ hR
  refine ⟨σ2, h4, h6, (b_L_law_1001 Ln 99 σ z).trans ?_⟩
  simp only [e1, m1, cond_true, h2, Option.bind_some, h5, h3, decide_true]
def ck_141 (R : mmSt → Prop) (Ln : Nat) : Prop := ∀ a : Int, vI a → cok R Ln 141 229 [mR 4, mI a] [mR 92, mI a, mJ]
theorem t_1018 {R : mmSt → Prop} {Ln : Nat} (hc : ck_141 R Ln) {σ : mmSt} {z : Int} (h0 : 0 ≤ z) (h1 : z + 6 ≤ (Ln : Int)) (hL : Ln ≤ 384) (hR : R σ) (hv : ∀ j, vI (σ 0 j)) : ∃ σ2, R σ2 ∧ σ2 0 = σ 0 ∧ srun (lyT Ln) (100, 242, 1018, [mR 0, mR 4, mR 92, mI z], [], σ) = srun (lyT Ln) (100, 242, 1147, [mR 0, mR 4, mR 92, mI z], [], σ2) := by
  have e1 : mwrap (z + 1) = z + 1 := mwrap_id ⟨by omega, by omega⟩
  have m1 : minb (z + 1) Ln = true := minb_t (by omega) (by omega)
  obtain ⟨σ1, v, σ2, h2, h3, h4, h5, h6⟩ := hc (σ 0 (Int.toNat (z + 1))) (hv _) σ hR
  refine ⟨σ2, h4, h6, (b_L_law_1018 Ln 99 σ z).trans ?_⟩
  simp only [e1, m1, cond_true, h2, Option.bind_some, h5, h3, decide_true]
def ck_142 (R : mmSt → Prop) (Ln : Nat) : Prop := ∀ a : Int, vI a → cok R Ln 142 231 [mR 4, mI a] [mR 92, mI a]
theorem t_1035 {R : mmSt → Prop} {Ln : Nat} (hc : ck_142 R Ln) {σ : mmSt} {z : Int} (h0 : 0 ≤ z) (h1 : z + 6 ≤ (Ln : Int)) (hL : Ln ≤ 384) (hR : R σ) (hv : ∀ j, vI (σ 0 j)) : ∃ σ2, R σ2 ∧ σ2 0 = σ 0 ∧ srun (lyT Ln) (100, 242, 1035, [mR 0, mR 4, mR 92, mI z], [], σ) = srun (lyT Ln) (100, 242, 1147, [mR 0, mR 4, mR 92, mI z], [], σ2) := by
  have e1 : mwrap (z + 1) = z + 1 := mwrap_id ⟨by omega, by omega⟩
  have m1 : minb (z + 1) Ln = true := minb_t (by omega) (by omega)
  obtain ⟨σ1, v, σ2, h2, h3, h4, h5, h6⟩ := hc (σ 0 (Int.toNat (z + 1))) (hv _) σ hR
  refine ⟨σ2, h4, h6, (b_L_law_1035 Ln 99 σ z).trans ?_⟩
  simp only [e1, m1, cond_true, h2, Option.bind_some, h5, h3, decide_true]
def ck_143 (R : mmSt → Prop) (Ln : Nat) : Prop := ∀ a b : Int, vI a → vI b → cok R Ln 143 232 [mR 4, mI a, mI b] [mR 92, mI a, mI b]
theorem t_1052 {R : mmSt → Prop} {Ln : Nat} (hc : ck_143 R Ln) {σ : mmSt} {z : Int} (h0 : 0 ≤ z) (h1 : z + 6 ≤ (Ln : Int)) (hL : Ln ≤ 384) (hR : R σ) (hv : ∀ j, vI (σ 0 j)) : ∃ σ2, R σ2 ∧ σ2 0 = σ 0 ∧ srun (lyT Ln) (100, 242, 1052, [mR 0, mR 4, mR 92, mI z], [], σ) = srun (lyT Ln) (100, 242, 1147, [mR 0, mR 4, mR 92, mI z], [], σ2) := by
  have e1 : mwrap (z + 1) = z + 1 := mwrap_id ⟨by omega, by omega⟩
  have m1 : minb (z + 1) Ln = true := minb_t (by omega) (by omega)
  have e2 : mwrap (z + 2) = z + 2 := mwrap_id ⟨by omega, by omega⟩
  have m2 : minb (z + 2) Ln = true := minb_t (by omega) (by omega)
  obtain ⟨σ1, v, σ2, h2, h3, h4, h5, h6⟩ := hc (σ 0 (Int.toNat (z + 1))) (σ 0 (Int.toNat (z + 2))) (hv _) (hv _) σ hR
  refine ⟨σ2, h4, h6, (b_L_law_1052 Ln 99 σ z).trans ?_⟩
  simp only [e1, e2, m1, m2, cond_true, h2, Option.bind_some, h5, h3, decide_true]
def ck_144 (R : mmSt → Prop) (Ln : Nat) : Prop := ∀ a b : Int, vI a → vI b → cok R Ln 144 238 [mR 4, mI a, mI b] [mR 92, mI a, mI b]
theorem t_1079 {R : mmSt → Prop} {Ln : Nat} (hc : ck_144 R Ln) {σ : mmSt} {z : Int} (h0 : 0 ≤ z) (h1 : z + 6 ≤ (Ln : Int)) (hL : Ln ≤ 384) (hR : R σ) (hv : ∀ j, vI (σ 0 j)) : ∃ σ2, R σ2 ∧ σ2 0 = σ 0 ∧ srun (lyT Ln) (100, 242, 1079, [mR 0, mR 4, mR 92, mI z], [], σ) = srun (lyT Ln) (100, 242, 1147, [mR 0, mR 4, mR 92, mI z], [], σ2) := by
  have e1 : mwrap (z + 1) = z + 1 := mwrap_id ⟨by omega, by omega⟩
  have m1 : minb (z + 1) Ln = true := minb_t (by omega) (by omega)
  have e2 : mwrap (z + 2) = z + 2 := mwrap_id ⟨by omega, by omega⟩
  have m2 : minb (z + 2) Ln = true := minb_t (by omega) (by omega)
  obtain ⟨σ1, v, σ2, h2, h3, h4, h5, h6⟩ := hc (σ 0 (Int.toNat (z + 1))) (σ 0 (Int.toNat (z + 2))) (hv _) (hv _) σ hR
  refine ⟨σ2, h4, h6, (b_L_law_1079 Ln 99 σ z).trans ?_⟩
  simp only [e1, e2, m1, m2, cond_true, h2, Option.bind_some, h5, h3, decide_true]
def ck_145 (R : mmSt → Prop) (Ln : Nat) : Prop := ∀ a : Int, vI a → cok R Ln 145 239 [mR 4, mI a] [mR 92, mI a]
theorem t_1106 {R : mmSt → Prop} {Ln : Nat} (hc : ck_145 R Ln) {σ : mmSt} {z : Int} (h0 : 0 ≤ z) (h1 : z + 6 ≤ (Ln : Int)) (hL : Ln ≤ 384) (hR : R σ) (hv : ∀ j, vI (σ 0 j)) : ∃ σ2, R σ2 ∧ σ2 0 = σ 0 ∧ srun (lyT Ln) (100, 242, 1106, [mR 0, mR 4, mR 92, mI z], [], σ) = srun (lyT Ln) (100, 242, 1147, [mR 0, mR 4, mR 92, mI z], [], σ2) := by
  have e1 : mwrap (z + 1) = z + 1 := mwrap_id ⟨by omega, by omega⟩
  have m1 : minb (z + 1) Ln = true := minb_t (by omega) (by omega)
  obtain ⟨σ1, v, σ2, h2, h3, h4, h5, h6⟩ := hc (σ 0 (Int.toNat (z + 1))) (hv _) σ hR
  refine ⟨σ2, h4, h6, (b_L_law_1106 Ln 99 σ z).trans ?_⟩
  simp only [e1, m1, cond_true, h2, Option.bind_some, h5, h3, decide_true]
def ck_146 (R : mmSt → Prop) (Ln : Nat) : Prop := ∀ a : Int, vI a → cok R Ln 146 240 [mR 4, mI a] [mR 92, mI a, mJ, mJ]
theorem t_1123 {R : mmSt → Prop} {Ln : Nat} (hc : ck_146 R Ln) {σ : mmSt} {z : Int} (h0 : 0 ≤ z) (h1 : z + 6 ≤ (Ln : Int)) (hL : Ln ≤ 384) (hR : R σ) (hv : ∀ j, vI (σ 0 j)) : ∃ σ2, R σ2 ∧ σ2 0 = σ 0 ∧ srun (lyT Ln) (100, 242, 1123, [mR 0, mR 4, mR 92, mI z], [], σ) = srun (lyT Ln) (100, 242, 1147, [mR 0, mR 4, mR 92, mI z], [], σ2) := by
  have e1 : mwrap (z + 1) = z + 1 := mwrap_id ⟨by omega, by omega⟩
  have m1 : minb (z + 1) Ln = true := minb_t (by omega) (by omega)
  obtain ⟨σ1, v, σ2, h2, h3, h4, h5, h6⟩ := hc (σ 0 (Int.toNat (z + 1))) (hv _) σ hR
  refine ⟨σ2, h4, h6, (b_L_law_1123 Ln 99 σ z).trans ?_⟩
  simp only [e1, m1, cond_true, h2, Option.bind_some, h5, h3, decide_true]
def ck_147 (R : mmSt → Prop) (Ln : Nat) : Prop := cok R Ln 147 241 [mR 4] [mR 92]
theorem t_1140 {R : mmSt → Prop} {Ln : Nat} (hc : ck_147 R Ln) {σ : mmSt} {z : Int} (h0 : 0 ≤ z) (h1 : z + 6 ≤ (Ln : Int)) (hL : Ln ≤ 384) (hR : R σ) (hv : ∀ j, vI (σ 0 j)) : ∃ σ2, R σ2 ∧ σ2 0 = σ 0 ∧ srun (lyT Ln) (100, 242, 1140, [mR 0, mR 4, mR 92, mI z], [], σ) = srun (lyT Ln) (100, 242, 1147, [mR 0, mR 4, mR 92, mI z], [], σ2) := by
  obtain ⟨σ1, v, σ2, h2, h3, h4, h5, h6⟩ := hc σ hR
  refine ⟨σ2, h4, h6, (b_L_law_1140 Ln 99 σ z).trans ?_⟩
  simp only [cond_true, h2, Option.bind_some, h3, decide_true]
def allok (R : mmSt → Prop) (Ln : Nat) : Prop := ck_106 R Ln ∧ ck_107 R Ln ∧ ck_108 R Ln ∧ ck_109 R Ln ∧ ck_110 R Ln ∧ ck_111 R Ln ∧ ck_112 R Ln ∧ ck_113 R Ln ∧ ck_114 R Ln ∧ ck_115 R Ln ∧ ck_116 R Ln ∧ ck_117 R Ln ∧ ck_118 R Ln ∧ ck_119 R Ln ∧ ck_120 R Ln ∧ ck_121 R Ln ∧ ck_122 R Ln ∧ ck_123 R Ln ∧ ck_124 R Ln ∧ ck_125 R Ln ∧ ck_126 R Ln ∧ ck_127 R Ln ∧ ck_128 R Ln ∧ ck_129 R Ln ∧ ck_130 R Ln ∧ ck_131 R Ln ∧ ck_132 R Ln ∧ ck_133 R Ln ∧ ck_134 R Ln ∧ ck_135 R Ln ∧ ck_136 R Ln ∧ ck_137 R Ln ∧ ck_138 R Ln ∧ ck_139 R Ln ∧ ck_140 R Ln ∧ ck_141 R Ln ∧ ck_142 R Ln ∧ ck_143 R Ln ∧ ck_144 R Ln ∧ ck_145 R Ln ∧ ck_146 R Ln ∧ ck_147 R Ln
theorem turn_of {R : mmSt → Prop} {Ln : Nat} (hc : allok R Ln) {σ : mmSt} {z : Int} (h0 : 0 ≤ z) (h1 : z + 6 ≤ (Ln : Int)) (hL : Ln ≤ 384) (hR : R σ) (hv : ∀ j, vI (σ 0 j)) : ∃ σ2, R σ2 ∧ σ2 0 = σ 0 ∧ srun (lyT Ln) (100, 242, 10, [mR 0, mR 4, mR 92, mI z], [], σ) = srun (lyT Ln) (100, 242, 10, [mR 0, mR 4, mR 92, mI (z + 6)], [], σ2) := by
  obtain ⟨k0, k1, k2, k3, k4, k5, k6, k7, k8, k9, k10, k11, k12, k13, k14, k15, k16, k17, k18, k19, k20, k21, k22, k23, k24, k25, k26, k27, k28, k29, k30, k31, k32, k33, k34, k35, k36, k37, k38, k39, k40, k41⟩ := hc
  have e6 : mwrap (z + 6) = z + 6 := mwrap_id ⟨by omega, by omega⟩
  have fin : ∀ {p : Nat}, (∃ σ2, R σ2 ∧ σ2 0 = σ 0 ∧ srun (lyT Ln) (100, 242, p, [mR 0, mR 4, mR 92, mI z], [], σ) = srun (lyT Ln) (100, 242, 1147, [mR 0, mR 4, mR 92, mI z], [], σ2)) → ∃ σ2, R σ2 ∧ σ2 0 = σ 0 ∧ srun (lyT Ln) (100, 242, p, [mR 0, mR 4, mR 92, mI z], [], σ) = srun (lyT Ln) (100, 242, 10, [mR 0, mR 4, mR 92, mI (z + 6)], [], σ2) := fun ⟨σ2, a, b, c⟩ => ⟨σ2, a, b, c.trans ((b_L_law_1147 Ln 99 σ2 z).trans (by rw [e6]))⟩
  rw [b_L_law_10 Ln 99 σ z]
  have w : mwrap ((Ln : Int) - 6) = (Ln : Int) - 6 := mwrap_id ⟨by omega, by omega⟩
  have g1 : decide ((Ln : Int) - 6 < z) = false := decide_eq_false (by omega)
  have g2 : minb z Ln = true := minb_t h0 (by omega)
  rw [w, g1, g2, cond_false, cond_true]
  by_cases q0 : (mand (σ 0 (Int.toNat z)) 63) = 0
  · rw [decide_eq_true q0, cond_true]; exact fin (t_22 k0 h0 h1 hL hR hv)
  rw [decide_eq_false q0, cond_false]
  by_cases q1 : (mand (σ 0 (Int.toNat z)) 63) = 1
  · rw [decide_eq_true q1, cond_true]; exact fin (t_59 k1 h0 h1 hL hR hv)
  rw [decide_eq_false q1, cond_false]
  by_cases q2 : (mand (σ 0 (Int.toNat z)) 63) = 2
  · rw [decide_eq_true q2, cond_true]; exact fin (t_96 k2 h0 h1 hL hR hv)
  rw [decide_eq_false q2, cond_false]
  by_cases q3 : (mand (σ 0 (Int.toNat z)) 63) = 3
  · rw [decide_eq_true q3, cond_true]; exact fin (t_153 k3 h0 h1 hL hR hv)
  rw [decide_eq_false q3, cond_false]
  by_cases q4 : (mand (σ 0 (Int.toNat z)) 63) = 4
  · rw [decide_eq_true q4, cond_true]; exact fin (t_170 k4 h0 h1 hL hR hv)
  rw [decide_eq_false q4, cond_false]
  by_cases q5 : (mand (σ 0 (Int.toNat z)) 63) = 5
  · rw [decide_eq_true q5, cond_true]; exact fin (t_187 k5 h0 h1 hL hR hv)
  rw [decide_eq_false q5, cond_false]
  by_cases q6 : (mand (σ 0 (Int.toNat z)) 63) = 6
  · rw [decide_eq_true q6, cond_true]; exact fin (t_194 k6 h0 h1 hL hR hv)
  rw [decide_eq_false q6, cond_false]
  by_cases q7 : (mand (σ 0 (Int.toNat z)) 63) = 7
  · rw [decide_eq_true q7, cond_true]; exact fin (t_201 k7 h0 h1 hL hR hv)
  rw [decide_eq_false q7, cond_false]
  by_cases q8 : (mand (σ 0 (Int.toNat z)) 63) = 8
  · rw [decide_eq_true q8, cond_true]; exact fin (t_208 k8 h0 h1 hL hR hv)
  rw [decide_eq_false q8, cond_false]
  by_cases q9 : (mand (σ 0 (Int.toNat z)) 63) = 9
  · rw [decide_eq_true q9, cond_true]; exact fin (t_225 k9 h0 h1 hL hR hv)
  rw [decide_eq_false q9, cond_false]
  by_cases q10 : (mand (σ 0 (Int.toNat z)) 63) = 10
  · rw [decide_eq_true q10, cond_true]; exact fin (t_252 k10 h0 h1 hL hR hv)
  rw [decide_eq_false q10, cond_false]
  by_cases q11 : (mand (σ 0 (Int.toNat z)) 63) = 11
  · rw [decide_eq_true q11, cond_true]; exact fin (t_279 k11 h0 h1 hL hR hv)
  rw [decide_eq_false q11, cond_false]
  by_cases q12 : (mand (σ 0 (Int.toNat z)) 63) = 12
  · rw [decide_eq_true q12, cond_true]; exact fin (t_306 k12 h0 h1 hL hR hv)
  rw [decide_eq_false q12, cond_false]
  by_cases q13 : (mand (σ 0 (Int.toNat z)) 63) = 13
  · rw [decide_eq_true q13, cond_true]; exact fin (t_333 k13 h0 h1 hL hR hv)
  rw [decide_eq_false q13, cond_false]
  by_cases q14 : (mand (σ 0 (Int.toNat z)) 63) = 14
  · rw [decide_eq_true q14, cond_true]; exact fin (t_360 k14 h0 h1 hL hR hv)
  rw [decide_eq_false q14, cond_false]
  by_cases q15 : (mand (σ 0 (Int.toNat z)) 63) = 15
  · rw [decide_eq_true q15, cond_true]; exact fin (t_387 k15 h0 h1 hL hR hv)
  rw [decide_eq_false q15, cond_false]
  by_cases q16 : (mand (σ 0 (Int.toNat z)) 63) = 16
  · rw [decide_eq_true q16, cond_true]; exact fin (t_414 k16 h0 h1 hL hR hv)
  rw [decide_eq_false q16, cond_false]
  by_cases q17 : (mand (σ 0 (Int.toNat z)) 63) = 17
  · rw [decide_eq_true q17, cond_true]; exact fin (t_451 k17 h0 h1 hL hR hv)
  rw [decide_eq_false q17, cond_false]
  by_cases q18 : (mand (σ 0 (Int.toNat z)) 63) = 18
  · rw [decide_eq_true q18, cond_true]; exact fin (t_478 k18 h0 h1 hL hR hv)
  rw [decide_eq_false q18, cond_false]
  by_cases q19 : (mand (σ 0 (Int.toNat z)) 63) = 19
  · rw [decide_eq_true q19, cond_true]; exact fin (t_495 k19 h0 h1 hL hR hv)
  rw [decide_eq_false q19, cond_false]
  by_cases q20 : (mand (σ 0 (Int.toNat z)) 63) = 20
  · rw [decide_eq_true q20, cond_true]; exact fin (t_522 k20 h0 h1 hL hR hv)
  rw [decide_eq_false q20, cond_false]
  by_cases q21 : (mand (σ 0 (Int.toNat z)) 63) = 21
  · rw [decide_eq_true q21, cond_true]; exact fin (t_549 k21 h0 h1 hL hR hv)
  rw [decide_eq_false q21, cond_false]
  by_cases q22 : (mand (σ 0 (Int.toNat z)) 63) = 22
  · rw [decide_eq_true q22, cond_true]; exact fin (t_566 k22 h0 h1 hL hR hv)
  rw [decide_eq_false q22, cond_false]
  by_cases q23 : (mand (σ 0 (Int.toNat z)) 63) = 23
  · rw [decide_eq_true q23, cond_true]; exact fin (t_603 k23 h0 h1 hL hR hv)
  rw [decide_eq_false q23, cond_false]
  by_cases q24 : (mand (σ 0 (Int.toNat z)) 63) = 24
  · rw [decide_eq_true q24, cond_true]; exact fin (t_650 k24 h0 h1 hL hR hv)
  rw [decide_eq_false q24, cond_false]
  by_cases q25 : (mand (σ 0 (Int.toNat z)) 63) = 25
  · rw [decide_eq_true q25, cond_true]; exact fin (t_677 k25 h0 h1 hL hR hv)
  rw [decide_eq_false q25, cond_false]
  by_cases q26 : (mand (σ 0 (Int.toNat z)) 63) = 26
  · rw [decide_eq_true q26, cond_true]; exact fin (t_704 k26 h0 h1 hL hR hv)
  rw [decide_eq_false q26, cond_false]
  by_cases q27 : (mand (σ 0 (Int.toNat z)) 63) = 27
  · rw [decide_eq_true q27, cond_true]; exact fin (t_721 k27 h0 h1 hL hR hv)
  rw [decide_eq_false q27, cond_false]
  by_cases q28 : (mand (σ 0 (Int.toNat z)) 63) = 28
  · rw [decide_eq_true q28, cond_true]; exact fin (t_728 k28 h0 h1 hL hR hv)
  rw [decide_eq_false q28, cond_false]
  by_cases q29 : (mand (σ 0 (Int.toNat z)) 63) = 29
  · rw [decide_eq_true q29, cond_true]; exact fin (t_755 k29 h0 h1 hL hR hv)
  rw [decide_eq_false q29, cond_false]
  by_cases q30 : (mand (σ 0 (Int.toNat z)) 63) = 30
  · rw [decide_eq_true q30, cond_true]; exact fin (t_812 k30 h0 h1 hL hR hv)
  rw [decide_eq_false q30, cond_false]
  by_cases q31 : (mand (σ 0 (Int.toNat z)) 63) = 31
  · rw [decide_eq_true q31, cond_true]; exact fin (t_869 k31 h0 h1 hL hR hv)
  rw [decide_eq_false q31, cond_false]
  by_cases q32 : (mand (σ 0 (Int.toNat z)) 63) = 32
  · rw [decide_eq_true q32, cond_true]; exact fin (t_906 k32 h0 h1 hL hR hv)
  rw [decide_eq_false q32, cond_false]
  by_cases q33 : (mand (σ 0 (Int.toNat z)) 63) = 33
  · rw [decide_eq_true q33, cond_true]; exact fin (t_964 k33 h0 h1 hL hR hv)
  rw [decide_eq_false q33, cond_false]
  by_cases q34 : (mand (σ 0 (Int.toNat z)) 63) = 34
  · rw [decide_eq_true q34, cond_true]; exact fin (t_1001 k34 h0 h1 hL hR hv)
  rw [decide_eq_false q34, cond_false]
  by_cases q35 : (mand (σ 0 (Int.toNat z)) 63) = 35
  · rw [decide_eq_true q35, cond_true]; exact fin (t_1018 k35 h0 h1 hL hR hv)
  rw [decide_eq_false q35, cond_false]
  by_cases q36 : (mand (σ 0 (Int.toNat z)) 63) = 36
  · rw [decide_eq_true q36, cond_true]; exact fin (t_1035 k36 h0 h1 hL hR hv)
  rw [decide_eq_false q36, cond_false]
  by_cases q37 : (mand (σ 0 (Int.toNat z)) 63) = 37
  · rw [decide_eq_true q37, cond_true]; exact fin (t_1052 k37 h0 h1 hL hR hv)
  rw [decide_eq_false q37, cond_false]
  by_cases q38 : (mand (σ 0 (Int.toNat z)) 63) = 38
  · rw [decide_eq_true q38, cond_true]; exact fin (t_1079 k38 h0 h1 hL hR hv)
  rw [decide_eq_false q38, cond_false]
  by_cases q39 : (mand (σ 0 (Int.toNat z)) 63) = 39
  · rw [decide_eq_true q39, cond_true]; exact fin (t_1106 k39 h0 h1 hL hR hv)
  rw [decide_eq_false q39, cond_false]
  by_cases q40 : (mand (σ 0 (Int.toNat z)) 63) = 40
  · rw [decide_eq_true q40, cond_true]; exact fin (t_1123 k40 h0 h1 hL hR hv)
  rw [decide_eq_false q40, cond_false]
  by_cases q41 : (mand (σ 0 (Int.toNat z)) 63) = 41
  · rw [decide_eq_true q41, cond_true]; exact fin (t_1140 k41 h0 h1 hL hR hv)
  rw [decide_eq_false q41, cond_false]
  exact fin ⟨σ, hR, rfl, rfl⟩
theorem loop_of {R : mmSt → Prop} {Ln : Nat} (hc : allok R Ln) (hL : Ln ≤ 384) : ∀ (n : Nat) (σ : mmSt) (z : Int), (Ln : Int) - z ≤ n → 0 ≤ z → z ≤ 390 → R σ → (∀ j, vI (σ 0 j)) → ∃ σ', srun (lyT Ln) (100, 242, 10, [mR 0, mR 4, mR 92, mI z], [], σ) = some (σ', 1) := by
  intro n
  induction n using Nat.strongRecOn with
  | ind n ih =>
    intro σ z hn h0 hz hR hv
    by_cases h1 : z + 6 ≤ (Ln : Int)
    · obtain ⟨σ2, r2, s2, e2⟩ := turn_of hc h0 h1 hL hR hv
      obtain ⟨σ', e⟩ := ih (n - 6) (by omega) σ2 (z + 6) (by omega) (by omega) (by omega) r2 (fun j => by rw [s2]; exact hv j)
      exact ⟨σ', e2.trans e⟩
    · refine ⟨σ, (b_L_law_10 Ln 99 σ z).trans ?_⟩
      have w : mwrap ((Ln : Int) - 6) = (Ln : Int) - 6 := mwrap_id ⟨by omega, by omega⟩
      have g1 : decide ((Ln : Int) - 6 < z) = true := decide_eq_true (by omega)
      rw [w, g1, cond_true]
/-- the pure claim out of a relation that holds at the start and stays at every call -/
theorem pure_of_rel (R : mmSt → Prop) (h0 : ∀ xs, (∀ j, vI (xs j)) → R (stI xs)) (hc : ∀ Ln, Ln ≤ 384 → allok R Ln) : PureLaw :=
  pure_of (fun Ln xs hL hv => loop_of (hc Ln hL) hL 384 (stI xs) 0 (by omega) (by omega) (by omega) (h0 xs hv) (fun j => hv j))
