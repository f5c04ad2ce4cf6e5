section MT
variable {p : Program} {l : Launch} {e : Env} {R : Room} {s : State} {m : MethodId} {args : Array Value} {below : List Frame} {meth : Method} {c : Code} {Q : State → Prop} {G : mmG} {cells slots : Nat} {ly : mmL}
/-- what stands, stands behind a move of the machine that keeps what can't change -/
theorem gEF_move {U : State} {H : Heap} {locs : List Loc} (h : gEF G s) (hS : va_S (gA G) s.heap H locs) (hU : U.heap = H) (hW : s.WarmedH U.vm) : gEF G U := by
  obtain ⟨h1, h2, h3, h4, h5, h6, h7⟩ := h
  have hal := hW.alike
  refine ⟨va_K.moved hal h1, fun w hw hn => ?_, va_AO.moved hal h3, Jvm.Stand.arrayOver_alikeB hal h4, fun k hk => ?_, fun k hk1 hk2 => ?_, by rw [hU]; exact Nat.le_trans h7 hS.1⟩
  · have hz := h2 w hw hn
    cases w with
    | methodLinkNest x1 x2 x3 x4 => exact va_Nw.warmM hW hz
    | fieldLinkNest x1 x2 x3 x4 x5 x6 => exact va_Nw.warmF hW hz
    | _ => cases hn
  · obtain ⟨hX, hlt⟩ := h5 k hk
    refine ⟨?_, hlt⟩
    rw [hU]
    exact va_T.moved hal (hX.kept (fun x hx hA => hS.2.1 x hx hA))
  · rw [hU]
    exact va_Z.moved hal ((h6 k hk1 hk2).kept (fun x hx hA => hS.2.1 x hx hA))
theorem gEF_same {U V : State} (h : gEF G U) (hv : U.vm = V.vm) (hh : U.heap = V.heap) : gEF G V := by
  obtain ⟨h1, h2, h3, h4, h5, h6, h7⟩ := h
  have hal : U.vm.Alike V.vm := by rw [hv]; exact Vm.Alike.refl _
  refine ⟨va_K.moved hal h1, fun w hw hn => ?_, va_AO.moved hal h3, Jvm.Stand.arrayOver_alikeB hal h4, fun k hk => ?_, fun k hk1 hk2 => ?_, by rw [← hh]; exact h7⟩
  · have hz := h2 w hw hn
    cases w with
    | methodLinkNest x1 x2 x3 x4 => exact va_Nw.same rfl hv hz
    | fieldLinkNest x1 x2 x3 x4 x5 x6 => exact va_Nw.same rfl hv hz
    | _ => cases hn
  · obtain ⟨hX, hlt⟩ := h5 k hk
    exact ⟨by rw [← hh]; exact va_T.moved hal hX, hlt⟩
  · rw [← hh]
    exact va_Z.moved hal (h6 k hk1 hk2)
def gRo (M : Nat) (v : Int) : Option Value := if mrk M = 0 then none else if mrk M = 2 then some (.long (Int64.ofInt v)) else some (.int (Int32.ofInt v))
/-- a method's end -/
def gQ (G : mmG) (M : Nat) (ly' : mmL) (σ' : mmSt) (v : Int) : Array Value → State → Outcome → State → Prop := fun _ st oc t => (oc = .returned (gRo M v) ∧ gEF G t ∧ gWD G ly' σ' t.heap ∧ (∀ a j, vI (σ' a j)) ∧ gRv M v) ∧ va_F (gA G) st t
def gP (G : mmG) (ly : mmL) (σ : mmSt) : State → Prop := fun U => gEF G U ∧ gWD G ly σ U.heap
def gws0 (M : Nat) : List Cond := .code (mnm M) (mby M) (mmaxL M) (mrt M) :: tb
theorem gad_args : ∀ (As : List mmV), (lg_sl (As.map (grv G))).length = (mslots As).length
  | [] => rfl
  | v :: As => by
    have ih := gad_args As
    have e : lg_sl ((v :: As).map (grv G)) = lg_sl [grv G v] ++ lg_sl (As.map (grv G)) := by simp [lg_sl]
    rw [e, List.length_append, ih]
    rcases v with z | z | r | u
    · show 1 + _ = (mslots As).length + 1; omega
    · show 2 + _ = (mslots As).length + 1 + 1; omega
    · show 1 + _ = (mslots As).length + 1; omega
    · show 1 + _ = (mslots As).length + 1; omega
theorem getD_app {x y : List mmV} {k : Nat} (h : x.length ≤ k) : (x ++ y).getD k mJ = y.getD (k - x.length) mJ := by
  simp only [List.getD_eq_getElem?_getD]
  rw [List.getElem?_append_right h]
theorem claims_args (n : Nat) : ∀ (As : List mmV) (pre : List mmV) (j : Nat) (q : Nat × Value), gclaim G (pre ++ mslots As ++ List.replicate n mJ) (pre.length + j) = some q → q ∈ lv_args pre.length (As.map (grv G))
  | [], pre, j, q, h => by
    exfalso
    unfold gclaim at h
    have e : (pre ++ mslots [] ++ List.replicate n mJ).getD (pre.length + j) mJ = mJ := by
      rw [List.append_assoc, getD_app (by omega)]
      show (List.replicate n mJ).getD _ mJ = mJ
      simp only [List.getD_eq_getElem?_getD, List.getElem?_replicate]
      split <;> rfl
    rw [e] at h
    cases h
  | v :: As, pre, j, q, h => by
    have one : ∀ w : mmV, (∀ z, w ≠ .inr (.inl z)) → w = v → mslots (v :: As) = v :: mslots As → (grv G v).category = 1 → q ∈ lv_args pre.length ((v :: As).map (grv G)) := by
      intro w hw hv hm hc
      rw [List.map_cons]
      unfold lv_args
      rw [if_neg (by rw [hc]; decide)]
      rw [hm] at h
      have e : pre ++ v :: mslots As ++ List.replicate n mJ = (pre ++ [v]) ++ mslots As ++ List.replicate n mJ := by simp
      cases j with
      | zero =>
        refine List.mem_cons.mpr (Or.inl ?_)
        unfold gclaim at h
        have e2 : (pre ++ v :: mslots As ++ List.replicate n mJ).getD (pre.length + 0) mJ = v := by
          rw [List.append_assoc, getD_app (by omega)]
          simp
        rw [e2] at h
        subst hv
        rcases w with z | z | r | u
        · cases h; rfl
        · exact absurd rfl (hw z)
        · cases h; rfl
        · cases h
      | succ j =>
        refine List.mem_cons_of_mem _ ?_
        have ih := claims_args n As (pre ++ [v]) j q
        rw [List.length_append] at ih
        refine ih ?_
        rw [← e]
        rw [show pre.length + [v].length + j = pre.length + (j + 1) by simp; omega]
        exact h
    rcases v with z | z | r | u
    · exact one _ (fun _ q => by cases q) rfl rfl rfl
    · rw [List.map_cons]
      unfold lv_args
      rw [if_pos (show (grv G (.inr (.inl z))).category = 2 from rfl)]
      have hm : mslots (.inr (.inl z) :: As) = .inr (.inl z) :: mJ :: mslots As := rfl
      rw [hm] at h
      have e : pre ++ .inr (.inl z) :: mJ :: mslots As ++ List.replicate n mJ = (pre ++ [.inr (.inl z), mJ]) ++ mslots As ++ List.replicate n mJ := by simp
      match j, h with
      | 0, h =>
        refine List.mem_cons.mpr (Or.inl ?_)
        unfold gclaim at h
        have e2 : (pre ++ .inr (.inl z) :: mJ :: mslots As ++ List.replicate n mJ).getD (pre.length + 0) mJ = .inr (.inl z) := by
          rw [List.append_assoc, getD_app (by omega)]
          simp
        have e3 : (pre ++ .inr (.inl z) :: mJ :: mslots As ++ List.replicate n mJ).getD (pre.length + 0 + 1) mJ = mJ := by
          rw [List.append_assoc, getD_app (by omega)]
          rw [show pre.length + 0 + 1 - pre.length = 1 by omega]
          rfl
        rw [e2, e3] at h
        cases h
        rfl
      | 1, h =>
        exfalso
        unfold gclaim at h
        have e3 : (pre ++ .inr (.inl z) :: mJ :: mslots As ++ List.replicate n mJ).getD (pre.length + 1) mJ = mJ := by
          rw [List.append_assoc, getD_app (by omega)]
          rw [show pre.length + 1 - pre.length = 1 by omega]
          rfl
        rw [e3] at h
        cases h
      | j + 2, h =>
        refine List.mem_cons_of_mem _ ?_
        have ih := claims_args n As (pre ++ [.inr (.inl z), mJ]) j q
        rw [List.length_append] at ih
        refine ih ?_
        rw [← e]
        rw [show pre.length + ([.inr (.inl z), mJ] : List mmV).length + j = pre.length + (j + 2) by simp; omega]
        exact h
    · exact one _ (fun _ q => by cases q) rfl rfl rfl
    · exact one _ (fun _ q => by cases q) rfl rfl rfl
theorem gLR_entry {As : List mmV} {n : Nat} (h : (mslots As).length ≤ n) : gLR G ((lg_sl (As.map (grv G)) ++ List.replicate (n - (lg_sl (As.map (grv G))).length) Slot.unset).toArray) (mframe As n) := by
  have hl := lv_entry (As.map (grv G)) (n := n) (by rw [gad_args]; exact h)
  unfold gLR
  have hlen : (mframe As n).length = n := by simp [mframe]; omega
  rw [hlen]
  refine ⟨hl.1, hl.2.1, fun q hq => hl.2.2 q ?_⟩
  obtain ⟨j, -, hj⟩ := List.mem_filterMap.mp hq
  have := claims_args (G := G) (n - (mslots As).length) As [] j q
  rw [List.length_nil, Nat.zero_add] at this
  exact this hj
theorem vkv_slots : ∀ (As : List mmV), (∀ v ∈ As, vkv v) → ∀ v ∈ mslots As, vkv v
  | [], _, v, h => by cases h
  | a :: As, ha, v, h => by
    have ih := vkv_slots As (vkv_tl ha)
    rcases a with z | z | r | u
    · exact (List.mem_cons.mp h).elim (fun q => q ▸ vkv_hd ha) (ih v)
    · exact (List.mem_cons.mp h).elim (fun q => q ▸ vkv_hd ha) (fun h => (List.mem_cons.mp h).elim (fun q => q ▸ trivial) (ih v))
    · exact (List.mem_cons.mp h).elim (fun q => q ▸ trivial) (ih v)
    · exact (List.mem_cons.mp h).elim (fun q => q ▸ trivial) (ih v)
theorem vkv_frame {As : List mmV} {n : Nat} (h : ∀ v ∈ As, vkv v) : ∀ v ∈ mframe As n, vkv v := fun v hv => by
  rcases List.mem_append.mp hv with q | q
  · exact vkv_slots As h v q
  · rw [List.eq_of_mem_replicate q]; trivial
/-- what the sound theorem says of a state -/
def gSnd (l : Launch) (G : mmG) (ly : mmL) (d M i : Nat) (L S : List mmV) (σ : mmSt) (ly' : mmL) (σ' : mmSt) (v : Int) : Prop :=
  ∀ {p : Program} {e : Env} {R : Room} {s : State} {m : MethodId} {args : Array Value} {below : List Frame} {meth : Method} {c : Code} {Q : State → Prop} {cells slots : Nat}, gCF G p s m args meth c M → (d ≤ R.frames ∧ 64 * d ≤ R.locals) → cells + (ly'.1 - ly.1) ≤ R.cells → slots + (ly'.2.1 - ly.2.1) ≤ R.slots → gV M L S σ →
    (∀ (H1 : Heap) (locs1 : List Loc) (pc : Nat) (ls1 : Array Slot), gWD G ly' σ' H1 → va_S (gA G) s.heap H1 locs1 → (∀ a j, vI (σ' a j)) → gRv M v → decode (mby M) pc = .ok (gRi M, 1) → W p l e R s m args below meth c H1 locs1 (cells + (ly'.1 - ly.1)) (slots + (ly'.2.1 - ly.2.1)) Q (F0 m pc ls1 (gRs M v))) →
    gWS p l e R s m args below meth c Q G cells slots ly M i L S σ
theorem okM_spec {M : Nat} (h : okM M = true) : plainName (mnm M).cls = true ∧ mmaxL M ≤ 40 ∧ (prg M 0).1 = 0 ∧ 0 < mlen M ∧ (minit M = true ↔ (mnm M).name = "<init>") ∧ mrt M = (match mrk M with | 0 => none | 1 => some .int | 2 => some .long | _ => some .boolean) ∧ mrk M ≤ 3 ∧ Cond.initialized (mnm M).cls ∈ tb ∧ ((mnm M).cls ≠ "java/lang/invoke/MethodHandle" ∧ (mnm M).cls ≠ "java/lang/invoke/VarHandle") ∧ (mstat M = true → Cond.static (mnm M) ∈ tb) ∧ (mstat M = false → Cond.instanceMethod (mnm M) ∈ tb ∧ (minit M = false → Cond.selects (mnm M).cls (mnm M) (mnm M) ∈ tb) ∧ (qC[mcls M]?).map (fun q => q.1) = some (mnm M).cls) := by
  unfold okM at h
  obtain ⟨h, h11⟩ := bb h
  obtain ⟨h, h10⟩ := bb h
  obtain ⟨h, h9⟩ := bb h
  obtain ⟨h, h8⟩ := bb h
  obtain ⟨h, h7⟩ := bb h
  obtain ⟨h, h6⟩ := bb h
  obtain ⟨h, h5⟩ := bb h
  obtain ⟨h, h4⟩ := bb h
  obtain ⟨h, h3⟩ := bb h
  refine ⟨h5, ble_le h6, of_decide_eq_true h7, blt_lt h8, of_decide_eq_true h9, of_decide_eq_true h10, ble_le h11, tbAt_mem h3, of_decide_eq_true h4, fun q => ?_, fun q => ?_⟩
  · rw [q] at h
    exact tbAt_mem h
  · rw [q] at h
    obtain ⟨h, g3⟩ := bb h
    obtain ⟨g1, g2⟩ := bb h
    refine ⟨tbAt_mem g1, fun z => ?_, of_decide_eq_true g3⟩
    rw [z] at g2
    exact tbAt_mem g2
/-- a callee's contract out of the sound theorem -/
theorem met_of {d M : Nat} {As : List mmV} {σ σ' : mmSt} {ly ly' : mmL} {v : Int} (hok : okM M = true) (hcode : Cond.code (mnm M) (mby M) (mmaxL M) (mrt M) ∈ tb) (hl : (mslots As).length ≤ mmaxL M) (hv : ∀ x ∈ As, vkv x) (hσ : ∀ a j, vI (σ a j)) (hS : gSnd l G ly d M 0 (mframe As (mmaxL M)) [] σ ly' σ' v) :
    Met l (mnm M) (gws0 M) ({ frames := d, cells := ly'.1 - ly.1, slots := ly'.2.1 - ly.2.1, locals := 64 * d }) (va_Pc (As.map (grv G)) (gP G ly σ)) (gQ G M ly' σ' v) (ly'.1 - ly.1) (ly'.2.1 - ly.2.1) (gA G) := by
  obtain ⟨o1, o2, o3, o4, o5, o6, o7, -⟩ := okM_spec hok
  refine Met.ofW (cc := mby M) (maxL := mmaxL M) (ret := mrt M) o1 rfl ?_
  intro p e s m args below meth c s₁ B hml hv0
  obtain ⟨rfl, hE, hw⟩ := hv0
  have hts := atoms_spec (ws := gws0 M) B.pre
  have hlk := B.notSynchronized
  have hF : gCF G p s m (As.map (grv G)).toArray meth c M := ⟨B.exec, B.bytes, hml, findClass_of_methodNamed B.named, fun w hw => hts w (List.mem_cons_of_mem _ hw), B.returns, hlk, (fun hi => (name_of_methodNamed B.named B.method).1.trans (o5.mp hi)), hE⟩
  rw [lg_entry_eq]
  have hx := B.exec
  have hb := B.bytes
  have hr := B.returns
  have hlen : (mframe As (mmaxL M)).length = mmaxL M := by simp [mframe]; omega
  have K := hS (p := p) (e := e) (R := { frames := d, cells := ly'.1 - ly.1, slots := ly'.2.1 - ly.2.1, locals := 64 * d }) (s := s) (m := m) (args := (As.map (grv G)).toArray) (below := below) (meth := meth) (c := c) (Q := MQ below (gQ G M ly' σ' v) (As.map (grv G)).toArray s (ly'.1 - ly.1) (ly'.2.1 - ly.2.1) (gA G)) (cells := 0) (slots := 0) hF ⟨Nat.le_refl _, Nat.le_refl _⟩ (by rw [Nat.zero_add]; exact Nat.le_refl _) (by rw [Nat.zero_add]; exact Nat.le_refl _) ⟨vkv_frame hv, (fun _ h => by cases h), hσ, hlen⟩ (fun H1 locs1 pc ls1 hw1 hs1 hr1 hr2 hd => by
    rw [Nat.zero_add, Nat.zero_add]
    have hq : ∀ t : State, t.heap = H1 → s.WarmedH t.vm → gQ G M ly' σ' v (As.map (grv G)).toArray s (.returned (gRo M v)) t := fun t ht hW => ⟨⟨rfl, gEF_move hE hs1 ht hW, by rw [ht]; exact hw1, hr1, hr2⟩, hs1.F ht⟩
    unfold gRi at hd
    unfold gRs
    unfold gRo at hq
    by_cases k0 : mrk M = 0
    · rw [if_pos k0] at hd hq ⊢
      rw [k0] at o6
      have o6 : mrt M = none := o6
      exact W.vret hx hb (by rw [hr, o6]) hq hs1.2.2 hd hlk
    · rw [if_neg k0] at hd hq ⊢
      by_cases k2 : mrk M = 2
      · rw [if_pos k2] at hd hq ⊢
        rw [k2] at o6
        have o6 : mrt M = some .long := o6
        exact W.lret hx hb (by rw [hr, o6]) hq hs1.2.2 hd hlk
      · rw [if_neg k2] at hd hq ⊢
        by_cases k1 : mrk M = 1
        · rw [k1] at o6
          have o6 : mrt M = some .int := o6
          exact W.iret hx hb (by rw [hr, o6]) hq hs1.2.2 hd hlk
        · have k3 : mrk M = 3 := by omega
          rw [k3] at o6
          have o6 : mrt M = some .boolean := o6
          exact W.zret (ty := .boolean) hx hb (by rw [hr, o6]) (by rcases hr2.2.2 k3 with q | q <;> rw [q] <;> rfl) hq hs1.2.2 hd hlk) s.heap [] ((lg_sl (As.map (grv G)) ++ List.replicate (mmaxL M - (lg_sl (As.map (grv G))).length) Slot.unset).toArray) hw va_S.rf (gLR_entry hl)
  rw [o3] at K
  exact K
theorem gP_blind {As : List Value} {σ : mmSt} : FrameBlind (va_Pc As (gP G ly σ)) := fun a U g mk q => ⟨q.1, gEF_same q.2.1 rfl rfl, q.2.2⟩
/-- behind a call -/
theorem g_call {M : Nat} {ly' : mmL} {σ' : mmSt} {v : Int} {H : Heap} {locs : List Loc} {mc ms pc : Nat} {ls : Array Slot} {st0 rest : List Value} {av : Array Value} (hr : va_Run p l e R s m args below meth c H locs cells slots mc ms (F0 m pc ls st0) rest (gQ G M ly' σ' v av) (gA G)) (hS : va_S (gA G) s.heap H locs)
    (kk : ∀ (H1 : Heap) (locs1 : List Loc), gWD G ly' σ' H1 → va_S (gA G) s.heap H1 locs1 → (∀ a j, vI (σ' a j)) → gRv M v → W p l e R s m args below meth c H1 locs1 (cells + mc) (slots + ms) Q (F0 m (pc + 3) ls ((gRo M v).toList ++ rest))) : W p l e R s m args below meth c H locs cells slots Q (F0 m pc ls st0) := by
  intro T hT X
  obtain ⟨w, st₀, t, T', L, h0, X', hL, e1, e2, ⟨⟨hv, hE, hw, hr1, hr2⟩, hz, hk⟩, st⟩ := hr T hT X
  cases hv
  rw [h0] at hz hk
  obtain ⟨t2, a1, b1⟩ := kk T'.heap (locs ++ L) (by rw [e1]; exact hw) ⟨Nat.le_trans hS.1 (by rw [e1]; exact hz), fun q h1 h2 => by rw [e1, hk q (Nat.lt_of_lt_of_le h1 hS.1) h2]; exact hS.2.1 q h1 h2, fun q hq => by
      rcases List.mem_append.mp hq with h | h
      · exact hS.2.2 q h
      · exact hL q h⟩ hr1 hr2 T' rfl X'
  exact ⟨t2, st t2 a1, b1⟩
theorem mpush_map {M : Nat} {v : Int} {S : List mmV} (h3 : mrk M ≤ 3) : (mpush (mrk M) v S).map (grv G) = (gRo M v).toList ++ S.map (grv G) := by
  unfold gRo
  rcases (show mrk M = 0 ∨ mrk M = 1 ∨ mrk M = 2 ∨ mrk M = 3 by omega) with q | q | q | q <;> rw [q] <;> rfl
theorem vkv_push {M : Nat} {v : Int} {S : List mmV} (h3 : mrk M ≤ 3) (hr : gRv M v) (h : ∀ x ∈ S, vkv x) : ∀ x ∈ mpush (mrk M) v S, vkv x := by
  rcases (show mrk M = 0 ∨ mrk M = 1 ∨ mrk M = 2 ∨ mrk M = 3 by omega) with q | q | q | q <;> rw [q]
  · exact h
  · exact vkv_cons h (hr.1 q)
  · exact vkv_cons h (hr.2.1 q)
  · refine vkv_cons h ?_
    rcases hr.2.2 q with z | z <;> rw [z]
    · exact vI_0
    · exact ⟨by decide, by decide⟩
end MT
