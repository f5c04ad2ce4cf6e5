/-! numbers of the mini machine and the real one's -/
theorem i32_toInt {z : Int} (h1 : -2147483648 ≤ z) (h2 : z < 2147483648) : (Int32.ofInt z).toInt = z := by
  rw [Int32.toInt_ofInt]
  have : Int.bmod z (2 ^ 32) = z := by
    rw [Int.bmod_def]; omega
  exact this
theorem i64_toInt {z : Int} (h1 : -9223372036854775808 ≤ z) (h2 : z < 9223372036854775808) : (Int64.ofInt z).toInt = z := by
  rw [Int64.toInt_ofInt]
  have : Int.bmod z (2 ^ 64) = z := by
    rw [Int.bmod_def]; omega
  exact this
def vI (z : Int) : Prop := -2147483648 ≤ z ∧ z < 2147483648
def vLg (z : Int) : Prop := -9223372036854775808 ≤ z ∧ z < 9223372036854775808
theorem i32_rng (x : Int32) : vI x.toInt := ⟨by have := Int32.le_toInt x; omega, by have := Int32.toInt_lt x; omega⟩
theorem mwrap_rng (z : Int) : vI (mwrap z) := by
  unfold mwrap vI
  rw [Int.bmod_def]; omega
theorem mwrapL_rng (z : Int) : vLg (mwrapL z) := by
  unfold mwrapL vLg
  rw [Int.bmod_def]; omega
theorem i32_wrap (z : Int) : Int32.ofInt (mwrap z) = Int32.ofInt z := by
  apply Int32.toInt_inj.mp
  rw [Int32.toInt_ofInt, Int32.toInt_ofInt]
  show Int.bmod (Int.bmod z 4294967296) (2 ^ 32) = _
  exact Int.bmod_bmod
theorem i64_wrap (z : Int) : Int64.ofInt (mwrapL z) = Int64.ofInt z := by
  apply Int64.toInt_inj.mp
  rw [Int64.toInt_ofInt, Int64.toInt_ofInt]
  show Int.bmod (Int.bmod z 18446744073709551616) (2 ^ 64) = _
  exact Int.bmod_bmod
theorem i32_add (x y : Int) : Int32.ofInt x + Int32.ofInt y = Int32.ofInt (mwrap (x + y)) := by rw [i32_wrap, Int32.ofInt_add]
theorem i32_sub (x y : Int) : Int32.ofInt x - Int32.ofInt y = Int32.ofInt (mwrap (x - y)) := by rw [i32_wrap, Int32.ofInt_sub]
theorem i32_mul (x y : Int) : Int32.ofInt x * Int32.ofInt y = Int32.ofInt (mwrap (x * y)) := by rw [i32_wrap, Int32.ofInt_mul]
theorem i32_neg (x : Int) : -Int32.ofInt x = Int32.ofInt (mwrap (-x)) := by rw [i32_wrap, Int32.ofInt_neg]
theorem i64_add (x y : Int) : Int64.ofInt x + Int64.ofInt y = Int64.ofInt (mwrapL (x + y)) := by rw [i64_wrap, Int64.ofInt_add]
theorem i64_sub (x y : Int) : Int64.ofInt x - Int64.ofInt y = Int64.ofInt (mwrapL (x - y)) := by rw [i64_wrap, Int64.ofInt_sub]
theorem i64_mul (x y : Int) : Int64.ofInt x * Int64.ofInt y = Int64.ofInt (mwrapL (x * y)) := by rw [i64_wrap, Int64.ofInt_mul]
theorem i32_of (x : Int32) : Int32.ofInt x.toInt = x := Int32.ofInt_toInt x
theorem i32_lt {x y : Int} (hx : vI x) (hy : vI y) : Int32.ofInt x < Int32.ofInt y ↔ x < y := by
  rw [Int32.lt_iff_toInt_lt, i32_toInt hx.1 hx.2, i32_toInt hy.1 hy.2]
theorem i32_le {x y : Int} (hx : vI x) (hy : vI y) : Int32.ofInt x ≤ Int32.ofInt y ↔ x ≤ y := by
  rw [Int32.le_iff_toInt_le, i32_toInt hx.1 hx.2, i32_toInt hy.1 hy.2]
theorem i32_eq {x y : Int} (hx : vI x) (hy : vI y) : Int32.ofInt x = Int32.ofInt y ↔ x = y := by
  rw [← Int32.toInt_inj, i32_toInt hx.1 hx.2, i32_toInt hy.1 hy.2]
theorem i64_eq {x y : Int} (hx : vLg x) (hy : vLg y) : Int64.ofInt x = Int64.ofInt y ↔ x = y := by
  rw [← Int64.toInt_inj, i64_toInt hx.1 hx.2, i64_toInt hy.1 hy.2]
theorem i64_lt {x y : Int} (hx : vLg x) (hy : vLg y) : Int64.ofInt x < Int64.ofInt y ↔ x < y := by
  rw [Int64.lt_iff_toInt_lt, i64_toInt hx.1 hx.2, i64_toInt hy.1 hy.2]
theorem vI_0 : vI 0 := ⟨by decide, by decide⟩
theorem vI_L {z : Int} (h : vI z) : vLg z := ⟨by have := h.1; omega, by have := h.2; omega⟩
theorem i32_long {x : Int} (h : vI x) : (Int32.ofInt x).toInt64 = Int64.ofInt x := by
  apply Int64.toInt_inj.mp
  rw [Int32.toInt_toInt64, i32_toInt h.1 h.2, i64_toInt (vI_L h).1 (vI_L h).2]
theorem i64_int {x : Int} : (Int64.ofInt x).toInt32 = Int32.ofInt (mwrap x) := by
  rw [i32_wrap]
  apply Int32.toInt_inj.mp
  rw [Int64.toInt_toInt32, Int64.toInt_ofInt, Int32.toInt_ofInt]
  exact Int.bmod_bmod_of_dvd (by decide)
theorem i32_cl {i : Int} (h : vI i) : (Int32.ofInt i).toNatClampNeg = i.toNat := by
  show (Int32.ofInt i).toInt.toNat = _
  rw [i32_toInt h.1 h.2]
theorem i32_in {i : Int} {n : Nat} (h : vI i) (hb : minb i n = true) : vp_in (Int32.ofInt i) n := by
  rw [vp_in_iff, i32_toInt h.1 h.2]
  simp only [minb, Bool.and_eq_true, decide_eq_true_eq] at hb
  exact hb
theorem i64_cmp {x y : Int} (hx : vLg x) (hy : vLg y) : lg_cmp (Int64.ofInt x) (Int64.ofInt y) = Int32.ofInt (mlcmp x y) := by
  unfold lg_cmp mlcmp
  simp only [gt_iff_lt, i64_lt hy hx, i64_eq hx hy]
  split
  · rfl
  · split <;> rfl
theorem mlcmp_rng (x y : Int) : vI (mlcmp x y) := by
  unfold mlcmp vI; split
  · decide
  · split <;> decide
theorem i64_div {x y : Int} (hx : vLg x) (hy : vLg y) : Int64.ofInt x / Int64.ofInt y = Int64.ofInt (mwrapL (x.tdiv y)) := by
  rw [i64_wrap]
  apply Int64.toInt_inj.mp
  rw [Int64.toInt_div, i64_toInt hx.1 hx.2, i64_toInt hy.1 hy.2, Int64.toInt_ofInt]
theorem i64_rem_eq (x y : Int64) : x - (x / y) * y = x % y := by
  apply Int64.toInt_inj.mp
  have h1 := Int64.le_toInt (x % y)
  have h2 := Int64.toInt_lt (x % y)
  rw [Int64.toInt_sub, Int64.toInt_mul, Int64.toInt_div, Int.bmod_mul_bmod, Int.sub_bmod_bmod, Int.mul_comm (x.toInt.tdiv y.toInt), ← Int.tmod_def, ← Int64.toInt_mod]
  exact Int.bmod_eq_of_le_mul_two (by omega) (by omega)
theorem i64_mod {x y : Int} (hx : vLg x) (hy : vLg y) : (Int64.ofInt x % Int64.ofInt y).toInt = x.tmod y := by
  rw [Int64.toInt_mod, i64_toInt hx.1 hx.2, i64_toInt hy.1 hy.2]
theorem i64_rem {x y : Int} (hx : vLg x) (hy : vLg y) : Int64.ofInt x - Int64.ofInt x / Int64.ofInt y * Int64.ofInt y = Int64.ofInt (x.tmod y) := by
  rw [i64_rem_eq, ← i64_mod hx hy, Int64.ofInt_toInt]
theorem i64_rng (x : Int64) : vLg x.toInt := ⟨by have := Int64.le_toInt x; omega, by have := Int64.toInt_lt x; omega⟩
theorem mtmod_rng {x y : Int} (hx : vLg x) (hy : vLg y) : vLg (x.tmod y) := by rw [← i64_mod hx hy]; exact i64_rng _
/-! the world: D, the array classes (int, boolean, county, int[]), the addresses of what can't change, the first new address; lengths and contents of what can't change -/
abbrev mmG : Type := va_G × (ClassId × ClassId × ClassId × ClassId) × (Nat → Nat) × Nat × (Nat → Nat) × mmSt
def gad (G : mmG) (k : Nat) : Nat := if k < 4 then G.2.2.1 k else G.2.2.2.1 + (k - 4)
def grv (G : mmG) : mmV → Value
  | .inl z => .int (Int32.ofInt z)
  | .inr (.inl z) => .long (Int64.ofInt z)
  | .inr (.inr (.inl r)) => .ref (gad G r)
  | .inr (.inr (.inr _)) => .null
def gfv (G : mmG) (σ : mmSt) (k : Nat) (j : Nat) : Option (Option Nat) → Value
  | none => .int (Int32.ofInt (σ k j))
  | some none => .null
  | some (some r) => .ref (gad G r)
def gcell (G : mmG) (f : Nat → mmC) (σ : mmSt) (k : Nat) : va_E := match f k with
  | .inl (b, n) => .inl (bif b then G.2.1.2.1 else G.2.1.1, n, .inl (fun j => Int32.ofInt (σ k j)))
  | .inr (.inl (t, rs)) => .inl (if t = 0 then G.2.1.2.2.1 else G.2.1.2.2.2, rs.length, .inr (.inr (.inr (.inr (fun j => (rs.getD j none).map (gad G))))))
  | .inr (.inr (c, fs)) => .inr (c, fs.mapIdx (fun j o => gfv G σ k j o))
def gws (G : mmG) (n : Nat) (f : Nat → mmC) (σ : mmSt) : va_W := (List.range (n - 4)).map (fun j => (gad G (j + 4), gcell G f σ (j + 4)))
def gA (G : mmG) : Nat → Prop := fun q => G.2.2.2.1 ≤ q
def gtys (G : mmG) : List (ClassId × FieldType) := [(G.2.1.1, .int), (G.2.1.2.1, .boolean), (G.2.1.2.2.1, .object "GridQuarrels$County"), (G.2.1.2.2.2, .array .int)]
theorem gws_at (G : mmG) {n k : Nat} (f : Nat → mmC) (σ : mmSt) (h4 : 4 ≤ k) (hk : k < n) : (gws G n f σ)[k - 4]? = some (gad G k, gcell G f σ k) := by
  unfold gws
  rw [List.getElem?_map, List.getElem?_range (by omega)]
  simp only [Option.map_some, show k - 4 + 4 = k by omega]
theorem gws_of (G : mmG) {n j : Nat} {f : Nat → mmC} {σ : mmSt} {q : Nat × va_E} (h : (gws G n f σ)[j]? = some q) : j + 4 < n ∧ q = (gad G (j + 4), gcell G f σ (j + 4)) := by
  unfold gws at h
  rw [List.getElem?_map] at h
  by_cases hj : j < n - 4
  · rw [List.getElem?_range hj] at h
    simp only [Option.map_some, Option.some.injEq] at h
    exact ⟨by omega, h.symm⟩
  · rw [List.getElem?_eq_none (by simp; omega)] at h
    cases h
theorem gad_hi (G : mmG) {k : Nat} (h : 4 ≤ k) : gad G k = G.2.2.2.1 + (k - 4) := if_neg (by omega)
theorem gws_D (G : mmG) (n : Nat) (f : Nat → mmC) (σ : mmSt) : va_D (gA G) (gws G n f σ) := by
  refine ⟨fun i j p q hi hj e => ?_, fun k q hk => ?_⟩
  · obtain ⟨-, rfl⟩ := gws_of G hi
    obtain ⟨-, rfl⟩ := gws_of G hj
    simp only [gad_hi G (show 4 ≤ i + 4 by omega), gad_hi G (show 4 ≤ j + 4 by omega)] at e
    omega
  · obtain ⟨-, rfl⟩ := gws_of G hk
    show G.2.2.2.1 ≤ gad G (k + 4)
    rw [gad_hi G (by omega)]
    omega
/-- one cell is another -/
theorem gws_set (G : mmG) {n k : Nat} {f f' : Nat → mmC} {σ σ' : mmSt} (h4 : 4 ≤ k) {e : va_E} (he : gcell G f' σ' k = e) (ho : ∀ j, j ≠ k → gcell G f' σ' j = gcell G f σ j) : (gws G n f σ).set (k - 4) (gad G k, e) = gws G n f' σ' := by
  apply List.ext_getElem?
  intro j
  by_cases hj : j = k - 4
  · subst hj
    by_cases hk : k < n
    · rw [List.getElem?_set_self (by simp [gws]; omega), gws_at G f' σ' h4 hk, he]
    · have e1 : (gws G n f σ).length = n - 4 := by simp [gws]
      have e2 : (gws G n f' σ').length = n - 4 := by simp [gws]
      rw [List.getElem?_eq_none (by rw [List.length_set, e1]; omega), List.getElem?_eq_none (by rw [e2]; omega)]
  · rw [List.getElem?_set_ne (Ne.symm hj)]
    unfold gws
    rw [List.getElem?_map, List.getElem?_map]
    by_cases hl : j < n - 4
    · rw [List.getElem?_range hl]
      simp only [Option.map_some]
      rw [ho (j + 4) (by omega)]
    · rw [List.getElem?_eq_none (by simp; omega)]
      rfl
/-- the heap holds the mini heap -/
def gWD (G : mmG) (ly : mmL) (σ : mmSt) (H : Heap) : Prop := va_P G.1 qC (gws G ly.1 ly.2.2 σ) H ∧ H.size = G.2.2.2.1 + (ly.1 - 4) ∧ 4 ≤ ly.1 ∧ ∀ k, k < 4 → ly.2.2 k = .inl (false, G.2.2.2.2.1 k) ∧ ∀ j, σ k j = G.2.2.2.2.2 k j
/-- what stands whatever the program does -/
def gEF (G : mmG) (U : State) : Prop := va_K G.1 qC (gtys G) U ∧ (∀ w ∈ lw_tbl, isNest w = true → va_Nw w U) ∧ va_AO "GridQuarrels$County" U ∧ (Cond.arrayOver (.array .int)).before #[] U = true ∧
  (∀ k, k < 4 → va_T .int (gad G k) (G.2.2.2.2.1 k) (fun j => .int (Int32.ofInt (G.2.2.2.2.2 k j))) (gA G) U U.heap ∧ gad G k < G.2.2.2.1) ∧ (∀ k, 1 ≤ k → k < 4 → va_Z (xstat k).1 (xstat k).2 "[I" (.ref (gad G k)) (gA G) U U.heap) ∧ G.2.2.2.1 ≤ U.heap.size
theorem gws_P (G : mmG) {n : Nat} {f : Nat → mmC} {σ : mmSt} {H : Heap} (h : ∀ k, 4 ≤ k → k < n → va_at G.1 qC (gad G k, gcell G f σ k) H) : va_P G.1 qC (gws G n f σ) H := by
  intro j q hj
  obtain ⟨h1, rfl⟩ := gws_of G hj
  exact h (j + 4) (by omega) h1
theorem gws_Pat (G : mmG) {n : Nat} {f : Nat → mmC} {σ : mmSt} {H : Heap} (h : va_P G.1 qC (gws G n f σ) H) {k : Nat} (h4 : 4 ≤ k) (hk : k < n) : va_at G.1 qC (gad G k, gcell G f σ k) H := h (k - 4) _ (gws_at G f σ h4 hk)
/-! locals -/
def gclaim (G : mmG) (L : List mmV) (i : Nat) : Option (Nat × Value) := match L.getD i mJ with
  | .inl z => some (i, .int (Int32.ofInt z))
  | .inr (.inl z) => (match L.getD (i + 1) mJ with
    | .inr (.inr (.inr _)) => some (i, .long (Int64.ofInt z))
    | _ => none)
  | .inr (.inr (.inl r)) => some (i, .ref (gad G r))
  | .inr (.inr (.inr _)) => none
def gcl (G : mmG) (L : List mmV) : List (Nat × Value) := (List.range L.length).filterMap (gclaim G L)
def gLR (G : mmG) (ls : Array Slot) (L : List mmV) : Prop := lv_has ls L.length (gcl G L)
theorem gcl_mem {G : mmG} {L : List mmV} {i : Nat} {v : Value} (hi : i < L.length) (h : gclaim G L i = some (i, v)) : (i, v) ∈ gcl G L := List.mem_filterMap.mpr ⟨i, List.mem_range.mpr hi, h⟩
theorem gclaim_fst {G : mmG} {L : List mmV} {i : Nat} {q : Nat × Value} (h : gclaim G L i = some q) : q.1 = i := by
  unfold gclaim at h
  split at h
  · cases h; rfl
  · split at h
    · cases h; rfl
    · cases h
  · cases h; rfl
  · cases h
theorem getD_lt {L : List mmV} {k : Nat} (h : L.getD k mJ ≠ mJ) : k < L.length := by
  rcases Nat.lt_or_ge k L.length with q | q
  · exact q
  · exact absurd (by rw [List.getD_eq_getElem?_getD, List.getElem?_eq_none q]; rfl) h
theorem gLR_int {G : mmG} {ls : Array Slot} {L : List mmV} (h : gLR G ls L) {k : Nat} {z : Int} (hk : L.getD k mJ = .inl z) : ls[k]? = some (.val (.int (Int32.ofInt z))) :=
  h.2.2 (k, _) (gcl_mem (getD_lt (by rw [hk]; exact fun q => by cases q)) (by unfold gclaim; rw [hk]))
theorem gLR_ref {G : mmG} {ls : Array Slot} {L : List mmV} (h : gLR G ls L) {k r : Nat} (hk : L.getD k mJ = .inr (.inr (.inl r))) : ls[k]? = some (.val (.ref (gad G r))) :=
  h.2.2 (k, _) (gcl_mem (getD_lt (by rw [hk]; exact fun q => by cases q)) (by unfold gclaim; rw [hk]))
theorem gLR_long {G : mmG} {ls : Array Slot} {L : List mmV} (h : gLR G ls L) {k : Nat} {z : Int} {u : Unit} (hk : L.getD k mJ = .inr (.inl z)) (hj : L.getD (k + 1) mJ = .inr (.inr (.inr u))) : ls[k]? = some (.val (.long (Int64.ofInt z))) :=
  h.2.2 (k, _) (gcl_mem (getD_lt (by rw [hk]; exact fun q => by cases q)) (by unfold gclaim; rw [hk]; simp only [hj]))
theorem getD_set {L : List mmV} {k j : Nat} {v : mmV} (hk : k < L.length) : (L.set k v).getD j mJ = if j = k then v else L.getD j mJ := by
  simp only [List.getD_eq_getElem?_getD]
  by_cases h : j = k
  · subst h; rw [List.getElem?_set_self hk, if_pos rfl]; rfl
  · rw [List.getElem?_set_ne (Ne.symm h), if_neg h]
/-- a store of one word -/
theorem gLR_st1 {G : mmG} {ls' : Array Slot} {L : List mmV} {k : Nat} {v : mmV} {w : Value} (hk : k < L.length) (hv : gclaim G (L.set k v) k = some (k, w)) (hn : v ≠ mJ) (hc : ∀ z, v ≠ .inr (.inl z))
    (h : lv_has ls' L.length ((k, w) :: (gcl G L).filter (fun q => !(q.1 == k) && !(q.1 + 1 == k && q.2.category == 2)))) : gLR G ls' (mst1 L k v) := by
  unfold mst1 gLR
  rw [List.length_set]
  refine ⟨h.1, h.2.1, fun q hq => h.2.2 q ?_⟩
  obtain ⟨i, hi, hq⟩ := List.mem_filterMap.mp hq
  have hi := List.mem_range.mp hi
  rw [List.length_set] at hi
  by_cases e : i = k
  · subst e
    rw [hv] at hq
    cases hq
    exact List.mem_cons_self
  · refine List.mem_cons_of_mem _ (List.mem_filter.mpr ⟨?_, ?_⟩)
    · have e1 := gclaim_fst hq
      obtain ⟨a, b⟩ := q
      cases e1
      refine gcl_mem hi ?_
      unfold gclaim at hq ⊢
      rw [getD_set hk, if_neg e] at hq
      split at hq
      · rename_i h1; rw [h1]; exact hq
      · rename_i h1
        rw [h1]
        rw [getD_set hk] at hq
        by_cases e2 : a + 1 = k
        · rw [if_pos e2] at hq
          split at hq
          · exact absurd rfl hn
          · cases hq
        · rw [if_neg e2] at hq
          exact hq
      · rename_i h1; rw [h1]; exact hq
      · cases hq
    · have e1 := gclaim_fst hq
      obtain ⟨a, b⟩ := q
      cases e1
      simp only [Bool.and_eq_true, Bool.not_eq_true', beq_eq_false_iff_ne, Bool.and_eq_false_iff, ne_eq]
      refine ⟨e, ?_⟩
      by_cases e2 : a + 1 = k
      · right
        unfold gclaim at hq
        rw [getD_set hk, if_neg e] at hq
        split at hq
        · cases hq; exact fun q => by cases q
        · rw [getD_set hk, if_pos e2] at hq
          split at hq
          · exact absurd rfl hn
          · cases hq
        · cases hq; exact fun q => by cases q
        · cases hq
      · exact Or.inl e2
/-- a store of two words -/
theorem gLR_st2 {G : mmG} {ls' : Array Slot} {L : List mmV} {k : Nat} {z : Int} (hk : k + 1 < L.length)
    (h : lv_has ls' L.length ((k, .long (Int64.ofInt z)) :: (gcl G L).filter (fun q => !(q.1 == k) && (!(q.1 == k + 1) && !(q.1 + 1 == k && q.2.category == 2))))) : gLR G ls' (mst2 L k (mL z)) := by
  unfold mst2 gLR
  rw [List.length_set, List.length_set]
  have hk0 : k < L.length := by omega
  have hk1 : k + 1 < (L.set k (mL z)).length := by rw [List.length_set]; exact hk
  refine ⟨h.1, h.2.1, fun q hq => h.2.2 q ?_⟩
  obtain ⟨i, hi, hq⟩ := List.mem_filterMap.mp hq
  have hi := List.mem_range.mp hi
  rw [List.length_set, List.length_set] at hi
  have hg : ∀ j, ((L.set k (mL z)).set (k + 1) mJ).getD j mJ = if j = k + 1 then mJ else if j = k then mL z else L.getD j mJ := fun j => by
    rw [getD_set hk1, getD_set hk0]
  unfold gclaim at hq
  rw [hg, hg] at hq
  by_cases e1 : i = k + 1
  · rw [if_pos e1] at hq
    cases hq
  · rw [if_neg e1] at hq
    by_cases e : i = k
    · rw [if_pos e, if_pos (by omega)] at hq
      have e9 := Option.some.inj hq
      rw [← e9, e]
      exact List.mem_cons_self
    · rw [if_neg e] at hq
      refine List.mem_cons_of_mem _ (List.mem_filter.mpr ⟨?_, ?_⟩)
      · refine List.mem_filterMap.mpr ⟨i, List.mem_range.mpr hi, ?_⟩
        unfold gclaim
        split at hq
        · exact hq
        · by_cases e2 : i + 1 = k + 1
          · omega
          · rw [if_neg e2] at hq
            by_cases e3 : i + 1 = k
            · rw [if_pos e3] at hq
              cases hq
            · rw [if_neg e3] at hq
              exact hq
        · exact hq
        · cases hq
      · have hf : q.1 = i := by
          split at hq
          · cases hq; rfl
          · split at hq
            · cases hq; rfl
            · cases hq
          · cases hq; rfl
          · cases hq
        simp only [Bool.and_eq_true, Bool.not_eq_true', beq_eq_false_iff_ne, Bool.and_eq_false_iff, ne_eq, hf]
        refine ⟨e, e1, ?_⟩
        by_cases e3 : i + 1 = k
        · right
          split at hq
          · cases hq; exact fun q => by cases q
          · rw [if_neg (by omega), if_pos e3] at hq
            cases hq
          · cases hq; exact fun q => by cases q
          · cases hq
        · exact Or.inl e3
