theorem ok_init (M : Nat) (hM : M < 243) (n1 : ¬ M = 1) (n2 : ¬ M = 2) : (minit M = true ↔ (mnm M).name = "<init>") ∧ mrk M ≤ 3 := by
  rcases (okAll M hM n1 n2).1 with q | ⟨h, -⟩
  · subst q; decide +kernel
  · obtain ⟨-, -, -, -, h5, -, h7, -⟩ := okM_spec h
    exact ⟨h5, h7⟩
/-- THE MINI MACHINE IS SOUND -/
theorem sound (l : Launch) (G : mmG) : ∀ (n : Nat) (ly : mmL) (d M i : Nat) (L S : List mmV) (σ : mmSt) (ly' : mmL) (σ' : mmSt) (v : Int), grunN mstep n (ly, (d, M, i, L, S, σ)) = some (ly', (σ', v)) → M < 243 → ¬ M = 1 → ¬ M = 2 → i < mlen M → lyOK ly → gSnd l G ly d M i L S σ ly' σ' v := by
  intro n
  induction n with
  | zero => intro ly d M i L S σ ly' σ' v h; cases h
  | succ n ih =>
    intro ly d M i L S σ ly' σ' v h hM n1 n2 hi hly p e R s m args below meth c Q cells slots F hR hcl hsl hV kk
    have hok := (okAll M hM n1 n2).2 i hi
    obtain ⟨hin, hm3⟩ := ok_init M hM n1 n2
    have hle := run_le (n + 1) _ _ _ _ h
    change gev (grunN mstep n) (grunN mstep n) (mstep (ly, (d, M, i, L, S, σ))) = some (ly', (σ', v)) at h
    have go : ∀ x, gIn d M x → grunN mstep n (ly, x) = some (ly', (σ', v)) → gWX p l e R s m args below meth c Q G cells slots ly x := by
      intro x hx hr hVx
      obtain ⟨d1, M1, i1, L1, S1, σ1⟩ := x
      obtain ⟨e1, e2, e3⟩ := hx
      have e1 : d1 = d := e1
      have e2 : M1 = M := e2
      have e3 : i1 < mlen M := e3
      subst e1; subst e2
      exact ih ly d1 M1 i1 L1 S1 σ1 ly' σ' v hr hM n1 n2 e3 hly F hR hcl hsl hVx kk
    cases hs : sstep ly (d, M, i, L, S, σ) with
    | inl u =>
      rw [mstep_inl hs] at h
      cases hm : malloc ly (d, M, i, L, S, σ) with
      | none => rw [hm] at h; cases h
      | some z =>
        rw [hm] at h
        obtain ⟨ly1, x1⟩ := z
        have h : grunN mstep n (ly1, x1) = some (ly', (σ', v)) := h
        have hle1 := malloc_le hm
        have hle2 := run_le n _ _ _ _ h
        obtain ⟨e1, e2, e3⟩ := malloc_in hok hm
        refine st_alloc (d := d) hok F hin hV ?_
        rw [hm]
        have c1 : cells + (ly1.1 - ly.1) + (ly'.1 - ly1.1) = cells + (ly'.1 - ly.1) := by have := hle1.1; have := hle2.1; omega
        have c2 : slots + (ly1.2.1 - ly.2.1) + (ly'.2.1 - ly1.2.1) = slots + (ly'.2.1 - ly.2.1) := by have := hle1.2.1; have := hle2.2.1; omega
        refine ⟨by omega, by omega, fun hVx => ?_⟩
        obtain ⟨d1, M1, i1, L1, S1, σ1⟩ := x1
        have e1 : d1 = d := e1
        have e2 : M1 = M := e2
        have e3 : i1 < mlen M := e3
        subst e1; subst e2
        refine ih ly1 d1 M1 i1 L1 S1 σ1 ly' σ' v h hM n1 n2 e3 (hle1.2.2 hly) F hR (by rw [c1]; exact hcl) (by rw [c2]; exact hsl) hVx ?_
        rw [c1, c2]
        exact kk
    | inr r =>
      rw [mstep_inr hs] at h
      have nx := nx_ok (d := d) (L := L) (S := S) (σ := σ) (ly := ly) hok
      rw [hs] at nx
      have stp : gSC p l e R s m args below meth c Q G cells slots ly (.inr r) → gWS p l e R s m args below meth c Q G cells slots ly M i L S σ := fun hk => st_step hM hok F hin hly hR ⟨by omega, by omega⟩ hV (by rw [hs]; exact hk)
      rcases r with ⟨bo, ⟨τ, w⟩⟩ | x | ⟨bo, x, z⟩ | ⟨bo, x⟩ | ⟨x, k⟩ | ⟨w, l2, z⟩
      · cases bo with
        | false => cases h
        | true =>
          have h : some (ly, (τ, w)) = some (ly', (σ', v)) := h
          cases h
          obtain ⟨r1, r2, r3, r4⟩ := ret_spec (G := G) hok hs rfl hm3 hV
          subst r1
          intro H locs ls hw hsS hl
          have K := kk H locs (prg M i).1 ls hw hsS hV.2.2.1 r4 r2
          simp only [Nat.sub_self, Nat.add_zero] at K
          rw [r3]
          exact K
      · exact stp (go x nx h)
      · refine stp ⟨fun hb => ?_, fun hb => ?_⟩
        · subst hb
          exact go x nx.1 h
        · subst hb
          exact go z nx.2 h
      · cases bo with
        | false => cases h
        | true => exact stp ⟨rfl, go x nx h⟩
      · have h : (grunN mstep n (ly, x)).bind (fun y => grunN mstep n (y.1, k y.2)) = some (ly', (σ', v)) := h
        obtain ⟨⟨ly1, ⟨τ, w⟩⟩, h1, h2⟩ := Option.bind_eq_some_iff.mp h
        obtain ⟨d', a, b, virt, q1, q2, q3, q4, q5, q6, q7, q8, q9, q10, q11, q12⟩ := call_spec hok hs
        subst q1; subst q2; subst q3
        have hle1 : lyLe ly ly1 := run_le n _ _ _ _ h1
        have hle2 : lyLe ly1 ly' := run_le n _ _ _ _ h2
        have hA := (okAll a (by omega) q11.1 q11.2).1
        have hA := hA.resolve_left (by omega)
        obtain ⟨-, -, -, o4, -, -, o7, -⟩ := okM_spec hA.1
        have hS1 : gSnd l G ly d' a 0 (mframe (S.take b).reverse (mmaxL a)) [] σ ly1 τ w := @ih ly d' a 0 _ [] σ ly1 τ w h1 (by omega) q11.1 q11.2 o4 hly
        intro H locs ls hw hsS hl
        have c1 : cells + (ly1.1 - ly.1) + (ly'.1 - ly1.1) = cells + (ly'.1 - ly.1) := by have := hle1.1; have := hle2.1; omega
        have c2 : slots + (ly1.2.1 - ly.2.1) + (ly'.2.1 - ly1.2.1) = slots + (ly'.2.1 - ly.2.1) := by have := hle1.2.1; have := hle2.2.1; omega
        refine g_call (call_run (ha := q10) hA.1 hA.2 F hR (by omega) (by omega) hV q4 q5 q6 q7 q12 hS1 hw hsS hl) hsS (fun H1 locs1 hw1 hs1 hr1 hr2 => ?_)
        have hVx : gV M L (mpush (mrk a) w (S.drop b)) τ := ⟨hV.1, vkv_push o7 hr2 (fun x hx => hV.2.1 x (List.mem_of_mem_drop hx)), hr1, hV.2.2.2⟩
        have K := ih ly1 (d' + 1) M (i + 1) L (mpush (mrk a) w (S.drop b)) τ ly' σ' v h2 hM n1 n2 q9 (hle1.2.2 hly) (p := p) (e := e) (R := R) (s := s) (m := m) (args := args) (below := below) (meth := meth) (c := c) (Q := Q) (cells := cells + (ly1.1 - ly.1)) (slots := slots + (ly1.2.1 - ly.2.1)) F hR (by rw [c1]; exact hcl) (by rw [c2]; exact hsl) hVx (by rw [c1, c2]; exact kk) H1 locs1 ls hw1 hs1 hl
        rw [q8, mpush_map o7] at K
        exact K
      · change (l2.map (fun q => (q.1, (ly, q.2)))).foldr (fun p acc => bif decide (w = p.1) then grunN mstep n p.2 else acc) (grunN mstep n (ly, z)) = some (ly', (σ', v)) at h
        refine stp ?_
        have key : match l2.find? (fun q => decide (w = q.1)) with
          | some q => q ∈ l2 ∧ grunN mstep n (ly, q.2) = some (ly', (σ', v))
          | none => grunN mstep n (ly, z) = some (ly', (σ', v)) := by
          clear nx hs stp
          induction l2 with
          | nil => exact h
          | cons q l2 ih2 =>
            simp only [List.foldr_cons, List.map_cons] at h
            rw [List.find?_cons]
            by_cases e1 : w = q.1
            · simp only [e1, decide_true, cond_true] at h ⊢
              exact ⟨List.mem_cons_self, h⟩
            · simp only [e1, decide_false, cond_false] at h ⊢
              have := ih2 h
              cases hf : l2.find? (fun q => decide (w = q.1)) with
              | none => rw [hf] at this; exact this
              | some q2 => rw [hf] at this; exact ⟨List.mem_cons_of_mem _ this.1, this.2⟩
        show match l2.find? (fun q => decide (w = q.1)) with
          | some q => gWX p l e R s m args below meth c Q G cells slots ly q.2
          | none => gWX p l e R s m args below meth c Q G cells slots ly z
        cases hf : l2.find? (fun q => decide (w = q.1)) with
        | some q => rw [hf] at key; exact go q.2 (nx.1 q key.1) key.2
        | none => rw [hf] at key; exact go z nx.2 key
