section SA
variable {p : Program} {l : Launch} {e : Env} {R : Room} {s : State} {m : MethodId} {args : Array Value} {below : List Frame} {meth : Method} {c : Code} {Q : State → Prop} {G : mmG} {cells slots : Nat} {ly : mmL}
variable {d M i pc a b : Nat} {L S : List mmV} {σ : mmSt} {k0 : Int} {sw : List (Int × Nat)}
theorem st_objinit (k : Nat) (hp : prg M i = (pc, .invokespecial k, a, 0, k0, sw)) (hok : okI M i pc (.invokespecial k) a 0 k0 sw = true) (F : gCF G p s m args meth c M) (hR : d ≤ R.frames ∧ 64 * d ≤ R.locals) (hV : gV M L S σ) (hk : gSC p l e R s m args below meth c Q G cells slots ly (mstepI ly d M i L S σ (.invokespecial k) a 0 k0 sw)) : gWS p l e R s m args below meth c Q G cells slots ly M i L S σ := by
  obtain ⟨hx, hb, hml, hown, hts, hrt, hlk, hnm, hE⟩ := F
  simp only [okI, Bool.and_eq_true] at hok
  obtain ⟨⟨h1, h2⟩, h3⟩ := hok
  have hpc : (prg M i).1 = pc := by rw [hp]
  have h3 : tbAt (xkp M k) (.methodLink (mnm M).cls k Lib.objectInit) = true := h3
  simp only [mstepI, beq_self_eq_true, cond_true] at hk
  split at hk
  · rename_i d' r S'
    cases hc : Nat.ble (mwords S') 8 with
    | false => rw [hc] at hk; exact hk.elim
    | true =>
      rw [hc] at hk
      have hw8 := ble_le hc
      intro H locs ls hw hs hl
      rw [hpc]
      refine W.objInit hx hb hown (hts _ (tbAt_mem h3)) (hts _ (tbAt_mem (k := 1018) (by decide +kernel))) (hts _ (tb_mem (tseg_in (j := 1) (List.mem_of_getElem? (i := 19) rfl)) rfl)) rfl (by rw [hml, ← hV.2.2.2]; exact hl.1) rfl (xdec_eq h1) (by omega) (by show 2 * 0 + _ + 12 ≤ _; rw [mwords_sum]; omega) ?_
      have K := hk ⟨hV.1, vkv_tl hV.2.1, hV.2.2.1, hV.2.2.2⟩ H locs ls hw hs hl
      rw [xnx_eq h2] at K
      exact K
  · exact hk.elim
theorem mcall_no {virt : Bool} (hk : gSC p l e R s m args below meth c Q G cells slots ly (mcall ly virt d M i L S σ a b)) : False := by
  unfold mcall at hk
  split at hk
  · exact hk
  · rename_i d'
    revert hk
    generalize (Nat.ble b S.length && Nat.ble (mwords (S.drop b)) 8 && (!virt || misObj ly (mcls a) ((S.take b).getLastD mJ)) && Nat.ble (mslots (S.take b).reverse).length (mmaxL a)) = z
    cases z
    · exact fun h => h
    · exact fun h => h
/-- one step of the mini machine, that is no call, no end and no making -/
theorem st_step (hM : M < 243) (hok : okE M i = true) (F : gCF G p s m args meth c M) (hin : minit M = true ↔ (mnm M).name = "<init>") (hsm : ∀ r n bo, ly.2.2 r = .inl (bo, n) → n < 2147483648) (hR : d ≤ R.frames ∧ 64 * d ≤ R.locals) (hcl : cells ≤ R.cells ∧ slots ≤ R.slots) (hV : gV M L S σ) (hk : gSC p l e R s m args below meth c Q G cells slots ly (sstep ly (d, M, i, L, S, σ))) : gWS p l e R s m args below meth c Q G cells slots ly M i L S σ := by
  rcases hp : prg M i with ⟨pc, ins, a, b, k0, sw⟩
  have hok : okI M i pc ins a b k0 sw = true := by unfold okE at hok; rw [hp] at hok; exact hok
  have hk : gSC p l e R s m args below meth c Q G cells slots ly (mstepI ly d M i L S σ ins a b k0 sw) := by unfold sstep at hk; simp only [hp] at hk; exact hk
  cases ins with
  | iadd => exact st_iadd hp hok F hV hk
  | isub => exact st_isub hp hok F hV hk
  | imul => exact st_imul hp hok F hV hk
  | iand => exact st_iand hp hok F hV hk
  | ior => exact st_ior hp hok F hV hk
  | ixor => exact st_ixor hp hok F hV hk
  | ishl => exact st_ishl hp hok F hV hk
  | ishr => exact st_ishr hp hok F hV hk
  | iushr => exact st_iushr hp hok F hV hk
  | ineg => exact st_ineg hp hok F hV hk
  | i2b => exact st_i2b hp hok F hV hk
  | i2s => exact st_i2s hp hok F hV hk
  | ladd => exact st_ladd hp hok F hV hk
  | lsub => exact st_lsub hp hok F hV hk
  | lmul => exact st_lmul hp hok F hV hk
  | ldiv => exact st_ldiv hp hok F hV hk
  | lrem => exact st_lrem hp hok F hV hk
  | lcmp => exact st_lcmp hp hok F hV hk
  | i2l => exact st_i2l hp hok F hV hk
  | l2i => exact st_l2i hp hok F hV hk
  | dup => exact st_dup hp hok F hV hk
  | dup2 => exact st_dup2 hp hok F hV hk
  | iaload => exact st_iaload hp hok F hV hk
  | baload => exact st_baload hp hok F hV hk
  | iastore => exact st_iastore hp hok F hV hk
  | bastore => exact st_bastore hp hok F hV hk
  | aaload => exact st_aaload hp hok F hV hk
  | aload_n k => exact st_aload_n k hp hok F hV hk
  | aload k => exact st_aload k hp hok F hV hk
  | iload_n k => exact st_iload_n k hp hok F hV hk
  | iload k => exact st_iload k hp hok F hV hk
  | lload_n k => exact st_lload_n k hp hok F hV hk
  | lload k => exact st_lload k hp hok F hV hk
  | istore_n k => exact st_istore_n k hp hok F hV hk
  | istore k => exact st_istore k hp hok F hV hk
  | lstore_n k => exact st_lstore_n k hp hok F hV hk
  | lstore k => exact st_lstore k hp hok F hV hk
  | astore_n k => exact st_astore_n k hp hok F hV hk
  | iconst k => exact st_iconst k hp hok F hV hk
  | bipush k => exact st_bipush k hp hok F hV hk
  | sipush k => exact st_sipush k hp hok F hV hk
  | ldc k => exact st_ldc k hp hok F hV hk
  | ldc_w k => exact st_ldc_w k hp hok F hV hk
  | ldc2_w k => exact st_ldc2_w k hp hok F hV hk
  | lconst k => exact st_lconst k hp hok F hV hk
  | goto k => exact st_goto k hp hok F hV hk
  | getfield k => exact st_getfield k hp hok F hV hk
  | getstatic k => exact st_getstatic k hp hok F hV hk
  | iinc k n => exact st_iinc k n hp hok F hV hk
  | putfield k => exact st_putfield k hp hok hin F hV hk
  | arraylength => exact st_arraylength hp hok F hsm hV hk
  | tableswitch df lo hi offs => exact st_tableswitch df lo hi offs hp hok F hV hk
  | lookupswitch df ps => exact st_lookupswitch df ps hp hok F hV hk
  | ifCond q off =>
    cases q with
    | eq => exact st_ifCond_eq off hp hok F hV hk
    | ne => exact st_ifCond_ne off hp hok F hV hk
    | lt => exact st_ifCond_lt off hp hok F hV hk
    | ge => exact st_ifCond_ge off hp hok F hV hk
    | gt => exact st_ifCond_gt off hp hok F hV hk
    | le => exact st_ifCond_le off hp hok F hV hk
  | if_icmp q off =>
    cases q with
    | eq => exact st_if_icmp_eq off hp hok F hV hk
    | ne => exact st_if_icmp_ne off hp hok F hV hk
    | lt => exact st_if_icmp_lt off hp hok F hV hk
    | ge => exact st_if_icmp_ge off hp hok F hV hk
    | gt => exact st_if_icmp_gt off hp hok F hV hk
    | le => exact st_if_icmp_le off hp hok F hV hk
  | invokevirtual k => exact (mcall_no hk).elim
  | invokespecial k =>
    by_cases hb0 : b = 0
    · subst hb0
      exact st_objinit k hp hok F hR hV hk
    · simp only [mstepI] at hk
      rw [show (b == 0) = false from beq_eq_false_iff_ne.mpr hb0] at hk
      exact (mcall_no hk).elim
  | invokestatic k =>
    by_cases h99 : b = 99
    · subst h99
      exact st_arraycopy k hp hok F hR hV hk
    · by_cases h98 : b = 98
      · subst h98
        exact st_mathmax k hp hok F hR hcl hV hk
      · by_cases h97 : b = 97
        · subst h97
          exact st_mathmin k hp hok F hR hcl hV hk
        · simp only [mstepI] at hk
          rw [show (b == 99) = false from beq_eq_false_iff_ne.mpr h99, show (b == 98) = false from beq_eq_false_iff_ne.mpr h98, show (b == 97) = false from beq_eq_false_iff_ne.mpr h97] at hk
          exact (mcall_no hk).elim
  | ireturn =>
    simp only [mstepI] at hk
    split at hk
    · revert hk
      generalize (mrk M == 1) = z
      generalize (mrk M == 3) = y
      cases z <;> cases y <;> exact fun h => h.elim
    · exact hk.elim
  | lreturn =>
    simp only [mstepI] at hk
    split at hk
    · revert hk
      generalize (mrk M == 2) = z
      cases z <;> exact fun h => h.elim
    · exact hk.elim
  | return_ =>
    simp only [mstepI] at hk
    split at hk
    · revert hk
      generalize (mrk M == 0) = z
      cases z <;> exact fun h => h.elim
    · exact hk.elim
  | _ => exact hk.elim
end SA
