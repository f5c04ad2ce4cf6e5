/-! what is done: hay, grid, drive, grow, years, undo -/
theorem good_cup {C : Cty} {f : Nat} {i v : Int} (g : Good C) (h : (f = 4 ∧ i < C 0 0 ∧ 0 ≤ v ∧ v ≤ 99) ∨ (f = 7 ∧ 0 ≤ v ∧ v ≤ 9) ∨ (f = 9 ∧ 0 ≤ v ∧ v < C 0 0) ∨ (f = 10 ∧ 0 ≤ v ∧ v ≤ 9)) : Good (cup C f i v) ∧ skel C (cup C f i v) := by
  obtain ⟨g1, g2, g3, g4⟩ := g
  refine ⟨⟨WF_upd g1 (by omega), ?_, ?_, fun p hp h7 => ?_⟩, fun a b hab => cup_nf (by omega)⟩
  · rw [cup_nf (by omega)]; exact g2
  · rw [cup_nf (by omega)]; exact g3
  · rw [cup_nf (by omega)] at hp
    rw [cup_ap, if_neg (by omega)]; exact g4 p hp h7
theorem hb_of {C : Cty} {K : Int} {H : Nat → Cty} (g : actG C K H) : ∀ k : Nat, (k : Int) < K → H k 1 0 ≤ 7 ∧ H k 2 0 ≤ 5 := fun k hk => by
  have := (g k hk).1.1.1
  omega
theorem thr2 {σ : mmSt} {K : Int} {H : Nat → Cty} (a : actM σ K H) : actM (mup σ 92 0 0) K H := actM_of (fun b j h => mup_ne (by omega)) a
theorem k_115 (Ln : Nat) : ck_115 Rel Ln := by
  intro p n _ _ σ hR
  obtain ⟨C, ⟨h, h', hc⟩, hA⟩ := hR.2.2.2.1
  obtain ⟨H, aX, aM, aG⟩ := acts_split hA
  have b := now_b hc
  have hm0 := thr h'
  have X := b_X_hay Ln 98 σ p n
  rw [x_isParish c48 h (by omega) (by omega) (by omega)] at X
  simp only [Option.bind_some, dec0, dec1, x_within (show 1 ≤ 98 by omega)] at X
  have M := fun τ => b_M_hay Ln 98 τ p n
  cases hq : inB p (C 0 0)
  · refine bad_fin hR (v := -1000001) (X.trans (by rw [hq]; rfl)) ((M σ).trans ?_)
    rw [m_isParish hm0 (by omega) (by omega) (by omega), hq]; rfl
  cases hn : btB 1 n 9
  · refine bad_fin hR (v := -1000001) (X.trans (by rw [hq, hn]; rfl)) ((M σ).trans ?_)
    rw [m_isParish hm0 (by omega) (by omega) (by omega), hq]
    simp only [Option.bind_some, dec0, dec1, m_in (show 1 ≤ 98 by omega), hn]; rfl
  have p1 := inB_t hq
  have n1 := btB_t hn
  have G := now_p hc hq
  have w := good_W G
  have wh := G.1.2.1 p p1.1 (by omega)
  obtain ⟨σa, ea, xa, fa⟩ := x_keep (Ln := Ln) h (by omega) (by omega) aX (show 2 ≤ 98 by omega)
  have ha : rep 12 (cX σa 48) C := rep_X48 (fun b j _ _ => fa b j (by omega)) h
  obtain ⟨σb, eb, kb, fb⟩ := x_put58 (Ln := Ln) (a := 48) (n := 12) ⟨c48, ha, w, by omega⟩ (show 1 ≤ 98 by omega) p1.1 (show p < 7 by omega) (show 0 ≤ n by omega) (by omega)
  have f1 : gfX σ σb := fun b j q => (fb b j (by omega)).trans (fa b j (by omega))
  have hb : rep 12 (cM ((mup σb 92 0 0) 96)) C := rep_M_of (fun j => (mup_ne (by omega)).trans (f1 96 j (by omega))) h'
  have mb : actM (mup σb 92 0 0) (σ 92 9) H := actM_of (fun b j q => (mup_ne (by omega)).trans (f1 b j (by omega))) aM
  obtain ⟨σc, ec, mc, fc⟩ := m_keep (Ln := Ln) hb (by omega) (by omega) (hb_of aG) mb (show 1 ≤ 98 by omega)
  obtain ⟨σd, ed, kd, fd⟩ := m_puts (Ln := Ln) (r := 96) ⟨.inl rfl, rep_M_of (fun j => fc 96 j (by omega)) hb, w⟩ (show 1 ≤ 98 by omega) p1.1 (show p < 7 by omega) (show 0 ≤ n by omega) (by omega)
  have gc : Good (putC C p n) ∧ skel C (putC C p n) := good_cup G (.inl ⟨rfl, p1.2, by unfold mmini; split <;> omega, by unfold mmini; split <;> omega⟩)
  refine act_fin hR (v := putC C p n 4 p) (X.trans ?_) kb.2.1 (actX_of (fun b j _ _ => fb b j (by omega)) xa) f1 ((M σb).trans ?_) kd.2.1 (actM_of (fun b j q => fd b j (by omega)) mc) (fun b j q => (fd b j (by omega)).trans ((fc b j (by omega)).trans (mup_ne (by omega)))) gc.1 (actG_push aG aM.2.1 aM.2.2.1 G gc.2)
  · rw [hq, hn]
    simp only [Bool.not_true, cond_false, cond_true, ea, eb, Option.bind_some, minb_t p1.1 (show p < ((7 : Nat) : Int) by omega), show σb 49 (Int.toNat p) = putC C p n 4 p from x4 kb.2.1 p p1.1 (by omega)]
  · rw [m_isParish hb (by omega) (by omega) (by omega), hq]
    simp only [Option.bind_some, dec0, dec1, m_in (show 1 ≤ 98 by omega), hn, Bool.not_true, cond_false, cond_true, ec, ed, mw (show -2147483648 ≤ 4 + p by omega) (by omega), minb_t (show 0 ≤ 4 + p by omega) (show 4 + p < ((52 : Nat) : Int) by omega), m4 kd.2.1 p p1.1 (show p < 7 by omega)]
theorem k_116 (Ln : Nat) : ck_116 Rel Ln := by
  intro p n _ _ σ hR
  obtain ⟨C, ⟨h, h', hc⟩, hA⟩ := hR.2.2.2.1
  obtain ⟨H, aX, aM, aG⟩ := acts_split hA
  have b := now_b hc
  have hm0 := thr h'
  have X := b_X_grid Ln 98 σ p n
  rw [x_isRoad c48 h (by omega) (by omega) (by omega)] at X
  simp only [Option.bind_some, dec0, dec1, x_within (show 1 ≤ 98 by omega)] at X
  have M := fun τ => b_M_grid Ln 98 τ p n
  cases hq : inB p (C 1 0)
  · refine bad_fin hR (v := -1000001) (X.trans (by rw [hq]; rfl)) ((M σ).trans ?_)
    rw [m_isRoad hm0 (by omega) (by omega) (by omega), hq]; rfl
  cases hn : btB 0 n 9
  · refine bad_fin hR (v := -1000001) (X.trans (by rw [hq, hn]; rfl)) ((M σ).trans ?_)
    rw [m_isRoad hm0 (by omega) (by omega) (by omega), hq]
    simp only [Option.bind_some, dec0, dec1, m_in (show 1 ≤ 98 by omega), hn]; rfl
  have p1 := inB_t hq
  have n1 := btB_t hn
  have G := now_r hc hq
  have w := good_W G
  obtain ⟨σa, ea, xa, fa⟩ := x_keep (Ln := Ln) h (by omega) (by omega) aX (show 2 ≤ 98 by omega)
  have ha : rep 12 (cX σa 48) C := rep_X48 (fun b j _ _ => fa b j (by omega)) h
  have kb : rep 12 (cX (mup σa 52 (Int.toNat p) n) 48) (cup C 7 p n) := rep_upX (f := 7) (by omega) (by omega) p1.1 (fun _ => rfl) ha
  have f1 : gfX σ (mup σa 52 (Int.toNat p) n) := fun b j q => (mup_ne (by omega)).trans (fa b j (by omega))
  have hb : rep 12 (cM ((mup (mup σa 52 (Int.toNat p) n) 92 0 0) 96)) C := rep_M_of (fun j => (mup_ne (by omega)).trans (f1 96 j (by omega))) h'
  have mb : actM (mup (mup σa 52 (Int.toNat p) n) 92 0 0) (σ 92 9) H := actM_of (fun b j q => (mup_ne (by omega)).trans (f1 b j (by omega))) aM
  obtain ⟨σc, ec, mc, fc⟩ := m_keep (Ln := Ln) hb (by omega) (by omega) (hb_of aG) mb (show 1 ≤ 98 by omega)
  have kc : KM σc 96 C := ⟨.inl rfl, rep_M_of (fun j => fc 96 j (by omega)) hb, w⟩
  have kd : rep 12 (cM ((mup σc 96 (Int.toNat (11 + 3 * p + 2)) n) 96)) (cup C 7 p n) := rep_upM (f := 7) (i := p) (by omega) (by omega) (by omega) p1.1 p1.2 kc.2.1
  have gc := good_cup (f := 7) (i := p) (v := n) G (.inr (.inl ⟨rfl, n1.1, n1.2⟩))
  refine act_fin hR (v := C 7 p) (σ1 := mup σa 52 (Int.toNat p) n) (σ2 := mup σc 96 (Int.toNat (11 + 3 * p + 2)) n) (X.trans ?_) kb (actX_of (fun b j _ _ => mup_ne (by omega)) xa) f1 ((M _).trans ?_) kd (actM_of (fun b j q => mup_ne (by omega)) mc) (fun b j q => (mup_ne (by omega)).trans ((fc b j (by omega)).trans (mup_ne (by omega)))) gc.1 (actG_push aG aM.2.1 aM.2.2.1 G gc.2)
  · rw [hq, hn]
    simp only [Bool.not_true, cond_false, cond_true, ea, Option.bind_some, minb_t p1.1 (show p < ((7 : Nat) : Int) by omega), show σ 52 (Int.toNat p) = C 7 p from x7 h p p1.1 p1.2]
  · rw [m_isRoad hb (by omega) (by omega) (by omega), hq]
    simp only [Option.bind_some, dec0, dec1, m_in (show 1 ≤ 98 by omega), hn, Bool.not_true, cond_false, cond_true, ec, m_its2 kc (show 1 ≤ 98 by omega) p1.1 p1.2, mw (show -2147483648 ≤ 3 * p by omega) (show 3 * p < 2147483648 by omega), mw (show -2147483648 ≤ 11 + 3 * p by omega) (show 11 + 3 * p < 2147483648 by omega), mw (show -2147483648 ≤ 11 + 3 * p + 2 by omega) (show 11 + 3 * p + 2 < 2147483648 by omega), minb_t (show 0 ≤ 11 + 3 * p + 2 by omega) (show 11 + 3 * p + 2 < ((52 : Nat) : Int) by omega)]
theorem k_118 (Ln : Nat) : ck_118 Rel Ln := by
  intro p n _ _ σ hR
  obtain ⟨C, ⟨h, h', hc⟩, hA⟩ := hR.2.2.2.1
  obtain ⟨H, aX, aM, aG⟩ := acts_split hA
  have b := now_b hc
  have hm0 := thr h'
  have X := b_X_grow Ln 98 σ p n
  rw [x_isQuarrel c48 h (by omega) (by omega) (by omega)] at X
  simp only [Option.bind_some, dec0, dec1, x_within (show 1 ≤ 98 by omega)] at X
  have M := fun τ => b_M_grow Ln 98 τ p n
  cases hq : inB p (C 2 0)
  · refine bad_fin hR (v := -1000001) (X.trans (by rw [hq]; rfl)) ((M σ).trans ?_)
    rw [m_isQuarrel hm0 (by omega) (by omega) (by omega), hq]; rfl
  cases hn : btB 1 n 9
  · refine bad_fin hR (v := -1000001) (X.trans (by rw [hq, hn]; rfl)) ((M σ).trans ?_)
    rw [m_isQuarrel hm0 (by omega) (by omega) (by omega), hq]
    simp only [Option.bind_some, dec0, dec1, m_in (show 1 ≤ 98 by omega), hn]; rfl
  have p1 := inB_t hq
  have n1 := btB_t hn
  have G := now_q hc hq
  have w := good_W G
  simp only [x_dead (⟨c48, h, w⟩ : KX σ 48 C) (show 1 ≤ 98 by omega) p1.1 p1.2, Option.bind_some, dec0] at X
  cases hd : deadB C p
  rotate_left
  · refine bad_fin hR (v := -1000002) (X.trans (by rw [hq, hn, hd]; rfl)) ((M σ).trans ?_)
    rw [m_isQuarrel hm0 (by omega) (by omega) (by omega), hq]
    simp only [Option.bind_some, dec0, dec1, m_in (show 1 ≤ 98 by omega), hn, Bool.not_true, cond_false, cond_true, m_alive (⟨.inl rfl, hm0, w⟩ : KM _ 96 C) (show 2 ≤ 98 by omega) p1.1 p1.2, hd]
  obtain ⟨σa, ea, xa, fa⟩ := x_keep (Ln := Ln) h (by omega) (by omega) aX (show 2 ≤ 98 by omega)
  have ha : rep 12 (cX σa 48) C := rep_X48 (fun b j _ _ => fa b j (by omega)) h
  have kb : rep 12 (cX (mup σa 55 (Int.toNat p) n) 48) (cup C 10 p n) := rep_upX (f := 10) (by omega) (by omega) p1.1 (fun _ => rfl) ha
  have f1 : gfX σ (mup σa 55 (Int.toNat p) n) := fun b j q => (mup_ne (by omega)).trans (fa b j (by omega))
  have hb : rep 12 (cM ((mup (mup σa 55 (Int.toNat p) n) 92 0 0) 96)) C := rep_M_of (fun j => (mup_ne (by omega)).trans (f1 96 j (by omega))) h'
  have mb : actM (mup (mup σa 55 (Int.toNat p) n) 92 0 0) (σ 92 9) H := actM_of (fun b j q => (mup_ne (by omega)).trans (f1 b j (by omega))) aM
  obtain ⟨σc, ec, mc, fc⟩ := m_keep (Ln := Ln) hb (by omega) (by omega) (hb_of aG) mb (show 1 ≤ 98 by omega)
  have kc : KM σc 96 C := ⟨.inl rfl, rep_M_of (fun j => fc 96 j (by omega)) hb, w⟩
  have kd : rep 12 (cM ((mup σc 96 (Int.toNat (32 + 4 * p + 2)) n) 96)) (cup C 10 p n) := rep_upM (f := 10) (i := p) (by omega) (by omega) (by omega) p1.1 p1.2 kc.2.1
  have gc := good_cup (f := 10) (i := p) (v := n) G (.inr (.inr (.inr ⟨rfl, by omega, n1.2⟩)))
  refine act_fin hR (v := C 10 p) (σ1 := mup σa 55 (Int.toNat p) n) (σ2 := mup σc 96 (Int.toNat (32 + 4 * p + 2)) n) (X.trans ?_) kb (actX_of (fun b j _ _ => mup_ne (by omega)) xa) f1 ((M _).trans ?_) kd (actM_of (fun b j q => mup_ne (by omega)) mc) (fun b j q => (mup_ne (by omega)).trans ((fc b j (by omega)).trans (mup_ne (by omega)))) gc.1 (actG_push aG aM.2.1 aM.2.2.1 G gc.2)
  · rw [hq, hn, hd]
    simp only [Bool.not_true, Bool.not_false, cond_false, cond_true, ea, Option.bind_some, minb_t p1.1 (show p < ((5 : Nat) : Int) by omega), show σ 55 (Int.toNat p) = C 10 p from x10 h p p1.1 p1.2]
  · rw [m_isQuarrel hb (by omega) (by omega) (by omega), hq]
    simp only [Option.bind_some, dec0, dec1, m_in (show 1 ≤ 98 by omega), hn, Bool.not_true, Bool.not_false, cond_false, cond_true, m_alive (⟨.inl rfl, hb, w⟩ : KM _ 96 C) (show 2 ≤ 98 by omega) p1.1 p1.2, hd, ec, m_of2 kc (show 1 ≤ 98 by omega) p1.1 p1.2, mw (show -2147483648 ≤ 4 * p by omega) (show 4 * p < 2147483648 by omega), mw (show -2147483648 ≤ 32 + 4 * p by omega) (show 32 + 4 * p < 2147483648 by omega), mw (show -2147483648 ≤ 32 + 4 * p + 2 by omega) (show 32 + 4 * p + 2 < 2147483648 by omega), minb_t (show 0 ≤ 32 + 4 * p + 2 by omega) (show 32 + 4 * p + 2 < ((52 : Nat) : Int) by omega)]
theorem k_117 (Ln : Nat) : ck_117 Rel Ln := by
  intro p r _ _ σ hR
  obtain ⟨C, ⟨h, h', hc⟩, hA⟩ := hR.2.2.2.1
  obtain ⟨H, aX, aM, aG⟩ := acts_split hA
  have b := now_b hc
  have hm0 := thr h'
  have X := b_X_drive Ln 98 σ p r
  rw [x_isQuarrel c48 h (by omega) (by omega) (by omega)] at X
  simp only [Option.bind_some, dec0, dec1, x_isRoad c48 h b.2.2.1 b.2.2.2.1 (show 2 ≤ 98 by omega)] at X
  have M := fun τ => b_M_drive Ln 98 τ p r
  cases hq : inB p (C 2 0)
  · refine bad_fin hR (v := -1000001) (X.trans (by rw [hq]; rfl)) ((M σ).trans ?_)
    rw [m_isQuarrel hm0 (by omega) (by omega) (by omega), hq]; rfl
  cases hn : inB r (C 1 0)
  · refine bad_fin hR (v := -1000001) (X.trans (by rw [hq, hn]; rfl)) ((M σ).trans ?_)
    rw [m_isQuarrel hm0 (by omega) (by omega) (by omega), hq]
    simp only [Option.bind_some, dec0, dec1, m_isRoad hm0 b.2.2.1 b.2.2.2.1 (show 2 ≤ 98 by omega), hn]; rfl
  have p1 := inB_t hq
  have r1 := inB_t hn
  have G := now_q hc hq
  have w := good_W G
  have fi := far_in w r1.1 r1.2 (C 9 p)
  simp only [x_dead (⟨c48, h, w⟩ : KX σ 48 C) (show 1 ≤ 98 by omega) p1.1 p1.2, show σ 54 (Int.toNat p) = C 9 p from x9 h p p1.1 p1.2, x_touch (⟨c48, h, w⟩ : KX σ 48 C) (show 1 ≤ 98 by omega) r1.1 r1.2, Option.bind_some, dec1] at X
  have MM : ∀ τ, rep 12 (cM ((mup τ 92 0 0) 96)) C → srun (lyT Ln) (99, 200, 0, [mR 92, mI p, mI r, mJ], [], τ) = (bif deadB C p then some (mup τ 92 0 0, -1000002) else bif touchB C r (C 9 p) then (Option.bind (srun (lyT Ln) (98, 196, 0, [mR 92, mJ], [], mup τ 92 0 0)) (fun y6 => some (mup y6.1 96 (Int.toNat (32 + 4 * p + 1)) (farC C r (C 9 p)), farC C r (C 9 p)))) else some (mup τ 92 0 0, -1000002)) := by
    intro τ hτ
    have kτ : KM (mup τ 92 0 0) 96 C := ⟨.inl rfl, hτ, w⟩
    refine (M τ).trans ?_
    rw [m_isQuarrel hτ (by omega) (by omega) (by omega), hq]
    simp only [Option.bind_some, dec0, dec1, m_isRoad hτ b.2.2.1 b.2.2.2.1 (show 2 ≤ 98 by omega), hn, Bool.not_true, cond_false, cond_true, m_of1 kτ (show 1 ≤ 98 by omega) p1.1 p1.2, m_beyond kτ (show 2 ≤ 98 by omega) r1.1 r1.2, m_alive kτ (show 2 ≤ 98 by omega) p1.1 p1.2, dne, beyond_ne w r1.1 r1.2, mw (show -2147483648 ≤ 4 * p by omega) (show 4 * p < 2147483648 by omega), mw (show -2147483648 ≤ 32 + 4 * p by omega) (show 32 + 4 * p < 2147483648 by omega), mw (show -2147483648 ≤ 32 + 4 * p + 1 by omega) (show 32 + 4 * p + 1 < 2147483648 by omega), minb_t (show 0 ≤ 32 + 4 * p + 1 by omega) (show 32 + 4 * p + 1 < ((52 : Nat) : Int) by omega)]
    cases deadB C p <;> cases touchB C r (C 9 p) <;> rfl
  cases hd : deadB C p
  rotate_left
  · refine bad_fin hR (v := -1000002) (X.trans (by rw [hq, hn, hd, minb_t p1.1 (by omega)]; rfl)) ((MM σ hm0).trans ?_)
    rw [hd]; rfl
  cases ht : touchB C r (C 9 p)
  · refine bad_fin hR (v := -1000002) (X.trans (by rw [hq, hn, hd, ht, minb_t p1.1 (by omega)]; rfl)) ((MM σ hm0).trans ?_)
    rw [hd, ht]; rfl
  obtain ⟨σa, ea, xa, fa⟩ := x_keep (Ln := Ln) h (by omega) (by omega) aX (show 2 ≤ 98 by omega)
  have ha : rep 12 (cX σa 48) C := rep_X48 (fun b j _ _ => fa b j (by omega)) h
  have kb : rep 12 (cX (mup σa 54 (Int.toNat p) (farC C r (C 9 p))) 48) (cup C 9 p (farC C r (C 9 p))) := rep_upX (f := 9) (by omega) (by omega) p1.1 (fun _ => rfl) ha
  have f1 : gfX σ (mup σa 54 (Int.toNat p) (farC C r (C 9 p))) := fun b j q => (mup_ne (by omega)).trans (fa b j (by omega))
  have hb : rep 12 (cM ((mup (mup σa 54 (Int.toNat p) (farC C r (C 9 p))) 92 0 0) 96)) C := rep_M_of (fun j => (mup_ne (by omega)).trans (f1 96 j (by omega))) h'
  have mb : actM (mup (mup σa 54 (Int.toNat p) (farC C r (C 9 p))) 92 0 0) (σ 92 9) H := actM_of (fun b j q => (mup_ne (by omega)).trans (f1 b j (by omega))) aM
  obtain ⟨σc, ec, mc, fc⟩ := m_keep (Ln := Ln) hb (by omega) (by omega) (hb_of aG) mb (show 1 ≤ 98 by omega)
  have kd : rep 12 (cM ((mup σc 96 (Int.toNat (32 + 4 * p + 1)) (farC C r (C 9 p))) 96)) (cup C 9 p (farC C r (C 9 p))) := rep_upM (f := 9) (i := p) (by omega) (by omega) (by omega) p1.1 p1.2 (rep_M_of (fun j => fc 96 j (by omega)) hb)
  have gc := good_cup (f := 9) (i := p) (v := farC C r (C 9 p)) G (.inr (.inr (.inl ⟨rfl, fi.1, fi.2⟩)))
  refine act_fin hR (v := farC C r (C 9 p)) (σ1 := mup σa 54 (Int.toNat p) (farC C r (C 9 p))) (σ2 := mup σc 96 (Int.toNat (32 + 4 * p + 1)) (farC C r (C 9 p))) (X.trans ?_) kb (actX_of (fun b j _ _ => mup_ne (by omega)) xa) f1 ((MM _ hb).trans ?_) kd (actM_of (fun b j q => mup_ne (by omega)) mc) (fun b j q => (mup_ne (by omega)).trans ((fc b j (by omega)).trans (mup_ne (by omega)))) gc.1 (actG_push aG aM.2.1 aM.2.2.1 G gc.2)
  · rw [hq, hn, hd, ht]
    simp only [Bool.not_true, cond_false, cond_true, ea, Option.bind_some, minb_t p1.1 (show p < ((5 : Nat) : Int) by omega), x_far (⟨c48, ha, w⟩ : KX σa 48 C) (show 1 ≤ 98 by omega) r1.1 r1.2, mup_eq]
  · rw [hd, ht, ec]; rfl
/-! years -/
theorem good_year {C : Cty} (g : Good C) (h : C 3 0 + 1 ≤ 999) : Good (yearC C) ∧ skel C (yearC C) := by
  obtain ⟨g1, g2, g3, g4⟩ := g
  refine ⟨⟨WF_year g1, ?_, ?_, fun p hp h7 => ?_⟩, fun a b hab => year_nf C (by omega) (by omega) (by omega)⟩
  · rw [year_3, mw (by omega) (by omega)]; omega
  · rw [year_3, mw (by omega) (by omega)]; exact h
  · rw [year_0] at hp
    rw [year_hay g1 hp]; exact g4 p hp h7
def yK : Nat → Int → Int
  | 0, K => K
  | n + 1, K => yK n (K1 K)
def yH : Nat → Cty → Int → (Nat → Cty) → (Nat → Cty)
  | 0, _, _, H => H
  | n + 1, C, K, H => yH n (yearC C) (K1 K) (H1 K H C)
theorem x_yrsL {Ln : Nat} {N : Int} (N1 : N ≤ 100) : ∀ (n : Nat) (z : Int) (σ : mmSt) (C : Cty) (K : Int) (H : Nat → Cty), rep 12 (cX σ 48) C → WF 12 C → actX σ K H → z + n = N → 0 ≤ z → ∃ σ', srun (lyT Ln) (99, 114, 24, [mR 4, mI N, mI z], [], σ) = some (σ', cntL (fun q => !deadB (yearsC n C) q) (Int.toNat (yearsC n C 2 0)) 0 0) ∧ rep 12 (cX σ' 48) (yearsC n C) ∧ actX σ' (yK n K) (yH n C K H) ∧ gfX σ σ' := by
  intro n
  induction n with
  | zero =>
    intro z σ C K H h w a e z0
    rw [b_X_years_24, decide_eq_true (by omega), cond_true, x_living (⟨c48, h, w⟩ : KX σ 48 C) (by omega)]
    exact ⟨σ, rfl, h, a, fun _ _ _ => rfl⟩
  | succ n ih =>
    intro z σ C K H h w a e z0
    have wf := w.1
    obtain ⟨σa, ea, xa, fa⟩ := x_keep (Ln := Ln) h (by omega) (by omega) a (show 2 ≤ 98 by omega)
    have ha : rep 12 (cX σa 48) C := rep_X48 (fun b j _ _ => fa b j (by omega)) h
    obtain ⟨σb, eb, kb, fb⟩ := x_year (Ln := Ln) (m := 12) (a := 48) ⟨c48, ha, w, by omega⟩ (show 4 ≤ 98 by omega)
    obtain ⟨σc, ec, hc, xc, fc⟩ := ih (z + 1) σb (yearC C) (K1 K) (H1 K H C) kb.2.1 kb.2.2.1 (actX_of (fun b j _ _ => fb b j (by omega)) xa) (by omega) (by omega)
    rw [b_X_years_24, decide_eq_false (by omega), cond_false, ea, Option.bind_some]
    simp only [eb, Option.bind_some, mw (show -2147483648 ≤ z + 1 by omega) (show z + 1 < 2147483648 by omega)]
    exact ⟨σc, ec, hc, xc, fun b j q => (fc b j q).trans ((fb b j (by omega)).trans (fa b j (by omega)))⟩
theorem m_yrsL {Ln : Nat} {N : Int} (N1 : N ≤ 100) : ∀ (n : Nat) (z : Int) (σ : mmSt) (C : Cty) (K : Int) (H : Nat → Cty), rep 12 (cM (σ 96)) C → Good C → C 3 0 + n ≤ 999 → actM σ K H → actG C K H → z + n = N → 0 ≤ z → ∃ σ', srun (lyT Ln) (99, 197, 28, [mR 92, mI N, mI z], [], σ) = some (σ', cntL (fun q => !deadB (yearsC n C) q) (Int.toNat (yearsC n C 2 0)) 0 0) ∧ rep 12 (cM (σ' 96)) (yearsC n C) ∧ actM σ' (yK n K) (yH n C K H) ∧ gfM σ σ' ∧ Good (yearsC n C) ∧ actG (yearsC n C) (yK n K) (yH n C K H) := by
  intro n
  induction n with
  | zero =>
    intro z σ C K H h g y a ag e z0
    rw [b_M_years_28, decide_eq_true (by omega), cond_true, m_living (⟨.inl rfl, h, good_W g⟩ : KM σ 96 C) (by omega)]
    exact ⟨σ, rfl, h, a, fun _ _ _ => rfl, g, ag⟩
  | succ n ih =>
    intro z σ C K H h g y a ag e z0
    have wf := g.1.1
    have gy3 := g.2.1
    have gy := good_year g (by omega)
    obtain ⟨σa, ea, xa, fa⟩ := m_keep (Ln := Ln) h (by omega) (by omega) (hb_of ag) a (show 1 ≤ 98 by omega)
    have ha : rep 12 (cM (σa 96)) C := rep_M_of (fun j => fa 96 j (by omega)) h
    obtain ⟨σb, eb, kb, fb, _⟩ := m_year (Ln := Ln) (r := 96) ⟨.inl rfl, ha, good_W g⟩ (show 5 ≤ 98 by omega)
    obtain ⟨σc, ec, hc, xc, fc, gc, agc⟩ := ih (z + 1) σb (yearC C) (K1 K) (H1 K H C) kb.2.1 gy.1 (by rw [year_3, mw (by omega) (by omega)]; omega) (actM_of (fun b j q => fb b j (by omega)) xa) (actG_push ag a.2.1 a.2.2.1 g gy.2) (by omega) (by omega)
    rw [b_M_years_28, decide_eq_false (by omega), cond_false, ea, Option.bind_some]
    simp only [eb, Option.bind_some, mw (show -2147483648 ≤ z + 1 by omega) (show z + 1 < 2147483648 by omega)]
    exact ⟨σc, ec, hc, xc, fun b j q => (fc b j q).trans ((fb b j (by omega)).trans (fa b j (by omega))), gc, agc⟩
theorem k_114 (Ln : Nat) : ck_114 Rel Ln := by
  intro n _ σ hR
  obtain ⟨C, ⟨h, h', hc⟩, hA⟩ := hR.2.2.2.1
  obtain ⟨H, aX, aM, aG⟩ := acts_split hA
  have b := now_b hc
  have hm0 := thr h'
  have X := b_X_years Ln 98 σ n
  rw [x_isTold c48 h (by omega)] at X
  simp only [Option.bind_some, dec0, dec1, x_within (show 1 ≤ 98 by omega), x3 h] at X
  have MM : ∀ τ, rep 12 (cM ((mup τ 92 0 0) 96)) C → srun (lyT Ln) (99, 197, 0, [mR 92, mI n, mJ], [], τ) = (bif decide (0 < C 0 0) then bif btB 1 n 24 then bif decide (mwrap (C 3 0 + n) ≤ 999) then srun (lyT Ln) (99, 197, 28, [mR 92, mI n, mI 0], [], mup τ 92 0 0) else some (mup τ 92 0 0, -1000003) else some (mup τ 92 0 0, -1000001) else some (mup τ 92 0 0, -1000002)) := by
    intro τ hτ
    rw [b_M_years, m_isThere hτ (by omega)]
    simp only [Option.bind_some, dec0, dec1, m_in (show 1 ≤ 98 by omega), m3 hτ]
  cases hq : decide (0 < C 0 0)
  · exact bad_fin hR (v := -1000002) (X.trans (by rw [hq]; rfl)) ((MM σ hm0).trans (by rw [hq]; rfl))
  cases hn : btB 1 n 24
  · exact bad_fin hR (v := -1000001) (X.trans (by rw [hq, hn]; rfl)) ((MM σ hm0).trans (by rw [hq, hn]; rfl))
  have G := now_t hc hq
  have n1 := btB_t hn
  have g3 := G.2.1
  have g4 := G.2.2.1
  rw [mw (by omega) (by omega)] at X
  have MM2 : ∀ τ, rep 12 (cM ((mup τ 92 0 0) 96)) C → srun (lyT Ln) (99, 197, 0, [mR 92, mI n, mJ], [], τ) = (bif decide (C 3 0 + n ≤ 999) then srun (lyT Ln) (99, 197, 28, [mR 92, mI n, mI 0], [], mup τ 92 0 0) else some (mup τ 92 0 0, -1000003)) := by
    intro τ hτ
    rw [MM τ hτ, hq, hn, mw (by omega) (by omega)]; rfl
  by_cases c : C 3 0 + n ≤ 999
  · obtain ⟨σ1, e1, r1, a1, f1⟩ := x_yrsL (Ln := Ln) (N := n) (by omega) (Int.toNat n) 0 σ C (σ 92 9) H h (good_W G) aX (by omega) (by omega)
    have hb : rep 12 (cM ((mup σ1 92 0 0) 96)) C := rep_M_of (fun j => (mup_ne (by omega)).trans (f1 96 j (by omega))) h'
    have mb : actM (mup σ1 92 0 0) (σ 92 9) H := actM_of (fun b j q => (mup_ne (by omega)).trans (f1 b j (by omega))) aM
    obtain ⟨σ2, e2, r2, a2, f2, g2, ag2⟩ := m_yrsL (Ln := Ln) (N := n) (by omega) (Int.toNat n) 0 _ C (σ 92 9) H hb G (by omega) mb aG (by omega) (by omega)
    refine act_fin hR (v := cntL (fun q => !deadB (yearsC (Int.toNat n) C) q) (Int.toNat (yearsC (Int.toNat n) C 2 0)) 0 0) (X.trans ?_) r1 a1 f1 ((MM2 σ1 hb).trans ?_) r2 a2 (gfM_trans (fun b j q => mup_ne (by omega)) f2) g2 ag2
    · rw [hq, hn, decide_eq_true c]; exact e1
    · rw [decide_eq_true c]; exact e2
  · exact bad_fin hR (v := -1000003) (X.trans (by rw [hq, hn, decide_eq_false c]; rfl)) ((MM2 σ hm0).trans (by rw [decide_eq_false c]; rfl))
/-! undo -/
theorem pg_back {nx K : Int} (n0 : 0 ≤ nx) (n1 : nx < 24) (K0 : 0 < K) (K2 : K ≤ 24) : pgI nx K (Int.toNat (K - 1)) = Int.toNat (if nx ≤ 0 then 23 else nx - 1) ∧ ∀ k : Nat, pgI (if nx ≤ 0 then 23 else nx - 1) (K - 1) k = pgI nx K k := by
  unfold pgI
  refine ⟨?_, fun k => ?_⟩ <;> split <;> omega
theorem x_back {Ln : Nat} {σ : mmSt} {C : Cty} {K : Int} {H : Nat → Cty} (h : rep 12 (cX σ 48) C) (b1 : C 1 0 ≤ 7) (b2 : C 2 0 ≤ 5) (a : actX σ K H) (K0 : 0 < K) (g : actG C K H) {D : Nat} (hD : 2 ≤ D) : ∃ σ', srun (lyT Ln) (D, 6, 0, [mR 21, mR 48], [], σ) = some (σ', 0) ∧ rep 12 (cX σ' 48) (H (Int.toNat (K - 1))) ∧ actX σ' (K - 1) H ∧ gfX σ σ' := by
  obtain ⟨d, rfl⟩ := Nat.exists_eq_add_of_le' hD
  obtain ⟨a1, a2, a3, a4, a5, a6⟩ := a
  have pb := pg_back a4 a5 K0 a3
  have sk := (g (Int.toNat (K - 1)) (by omega)).2
  have rp := a6 (Int.toNat (K - 1)) (by omega)
  rw [pb.1] at rp
  have F : ∀ v : Int, v = (if σ 21 2 ≤ 0 then 23 else σ 21 2 - 1) → ∃ σ', srun (lyT Ln) (d + 2, 6, 26, [mR 21, mR 48], [mI v, mR 22, mR 48], mup (mup σ 21 2 v) 21 0 (K - 1)) = some (σ', 0) ∧ rep 12 (cX σ' 48) (H (Int.toNat (K - 1))) ∧ actX σ' (K - 1) H ∧ gfX σ σ' := by
    intro v hv
    have v0 : 0 ≤ v ∧ v < 24 := by rw [hv]; split <;> omega
    rw [← hv] at rp
    have pin := page_in (n := Int.toNat v) (by omega)
    have e := x_page (Ln := Ln) (d := d + 1) (σ := mup (mup σ 21 2 v) 21 0 (K - 1)) (.inr ⟨rfl, rfl, rfl⟩) (Int.toNat v) (by omega)
    rw [Int.toNat_of_nonneg v0.1] at e
    rw [e, b_Acts_takeBack_27 _ _ _ _ pin, b_County_readFrom _ _ _ _ c48 _ pin, Option.bind_some]
    obtain ⟨q1, q2, q3, q4⟩ := rp
    have eH : H (Int.toNat (K - 1)) 1 0 = C 1 0 ∧ H (Int.toNat (K - 1)) 2 0 = C 2 0 := ⟨sk 1 0 (by omega), sk 2 0 (by omega)⟩
    refine ⟨_, rfl, rep_mkX ?_ ?_ ?_ ?_ (fun i i0 i1 => ?_) (fun i i0 i1 => ?_) (fun i i0 i1 => ?_) (fun i i0 i1 => ?_) (fun i i0 i1 => ?_) (fun i i0 i1 => ?_) (fun i i0 i1 => ?_) (fun i i0 i1 => ?_), ?_, fun b j q => ?_⟩
    · simp (discharger := omega) only [mcpy_ne, mup_ne]; rw [sk 0 0 (by omega)]; exact x0 h
    · simp (discharger := omega) only [mcpy_ne, mup_ne]; rw [sk 1 0 (by omega)]; exact x1 h
    · simp (discharger := omega) only [mcpy_ne, mup_ne]; rw [sk 2 0 (by omega)]; exact x2 h
    · simp (discharger := omega) only [mcpy_ne, mup_ne, mup_eq]; exact q1
    · simp (discharger := omega) only [mcpy_ne, mcpy_eq, mup_ne]
      rw [← q2 i i0 i1]; congr 1; omega
    · simp (discharger := omega) only [mcpy_ne, mup_ne]; rw [sk 5 i (by omega)]; exact x5 h i i0 (by omega)
    · simp (discharger := omega) only [mcpy_ne, mup_ne]; rw [sk 6 i (by omega)]; exact x6 h i i0 (by omega)
    · simp (discharger := omega) only [mcpy_ne, mcpy_eq, mup_ne]
      rw [← q3 i i0 i1]; congr 1; omega
    · simp (discharger := omega) only [mcpy_ne, mup_ne]; rw [sk 8 i (by omega)]; exact x8 h i i0 (by omega)
    · simp (discharger := omega) only [mcpy_ne, mcpy_eq, mup_ne]
      rw [← (q4 i i0 i1).1]; congr 1; omega
    · simp (discharger := omega) only [mcpy_ne, mcpy_eq, mup_ne]
      rw [← (q4 i i0 i1).2]; congr 1; omega
    · simp (discharger := omega) only [mcpy_ne, mup_ne]; rw [sk 11 i (by omega)]; exact x11 h i i0 (by omega)
    · have fr : ∀ b j, b ≤ 46 → (mcpy (mcpy (mcpy (mcpy (mup (mup (mup σ 21 2 v) 21 0 (K - 1)) 48 3 ((mup (mup σ 21 2 v) 21 0 (K - 1)) (23 + Int.toNat v) 0)) (23 + Int.toNat v) 1 (48 + 1) 0 7) (23 + Int.toNat v) 8 (48 + 4) 0 7) (23 + Int.toNat v) 15 (48 + 6) 0 5) (23 + Int.toNat v) 20 (48 + 7) 0 5) b j = (mup (mup σ 21 2 v) 21 0 (K - 1)) b j := fun b j hb => by
        rw [mcpy_ne (by omega), mcpy_ne (by omega), mcpy_ne (by omega), mcpy_ne (by omega), mup_ne (by omega)]
      refine actX_of (σ := mup (mup σ 21 2 v) 21 0 (K - 1)) (fun b j _ hb => fr b j hb) ?_
      have e2 : (mup (mup σ 21 2 v) 21 0 (K - 1)) 21 2 = v := by rw [mup_ne (by omega), mup_eq]
      refine ⟨mup_eq _ _ _ _, by omega, by omega, by rw [e2]; omega, by rw [e2]; omega, fun k hk => ?_⟩
      have P : pgI v (K - 1) k = pgI (σ 21 2) K k := by rw [hv]; exact pb.2 k
      rw [e2, P]
      exact repP_of (fun j => by rw [mup_ne (by omega), mup_ne (by omega)]) (a6 k (by omega))
    · simp (discharger := omega) only [mcpy_ne, mup_ne]
  rw [b_Acts_takeBack, a1, decide_eq_true (show ¬ K = 0 by omega), cond_true]
  simp (discharger := omega) only [mup_ne, mup_eq, a1, mw]
  by_cases c : σ 21 2 ≤ 0
  · rw [decide_eq_true c]; exact F 23 (by rw [if_pos c])
  · rw [decide_eq_false c]; exact F _ (by rw [if_neg c])
theorem m_undoL {Ln : Nat} {K : Int} (K0 : 0 ≤ K) (K2 : K ≤ 23) : ∀ (n : Nat) (z : Int) (σ : mmSt), z + n = 52 → 0 ≤ z → σ 92 9 = K → ∃ σ', srun (lyT Ln) (99, 202, 16, [mR 92, mI z], [], σ) = some (σ', K) ∧ (∀ b j, b ≠ 96 → σ' b j = σ b j) ∧ ∀ j : Nat, σ' 96 j = if z ≤ (j : Int) ∧ j < 52 then σ 99 (52 * Int.toNat K + j) else σ 96 j := by
  intro n
  induction n with
  | zero =>
    intro z σ e z0 hK
    rw [b_M_undo_16, decide_eq_true (show 52 ≤ z by omega), hK]
    exact ⟨_, rfl, fun b j hb => rfl, fun j => by rw [if_neg (by omega)]⟩
  | succ n ih =>
    intro z σ e z0 hK
    rw [b_M_undo_16, decide_eq_false (show ¬ 52 ≤ z by omega), cond_false, hK, mw (z := 52 * K) (by omega) (by omega), mw (z := 52 * K + z) (by omega) (by omega), minb_t (by omega) (by omega), cond_true, minb_t z0 (by omega), cond_true, mw (by omega) (by omega)]
    obtain ⟨σ', e1, f1, h1⟩ := ih (z + 1) (mup σ 96 (Int.toNat z) (σ 99 (Int.toNat (52 * K + z)))) (by omega) (by omega) (by rw [mup_ne (by omega)]; exact hK)
    refine ⟨σ', e1, fun b j hb => (f1 b j hb).trans (mup_ne (by omega)), fun j => ?_⟩
    rw [h1, mup_ne (b := 99) (by omega), mup_ap]
    by_cases c : z ≤ (j : Int) ∧ j < 52
    · rw [if_pos c]
      by_cases c2 : (j : Int) = z
      · rw [if_neg (by omega), if_pos (by omega), show Int.toNat (52 * K + z) = 52 * Int.toNat K + j by omega]
      · rw [if_pos (by omega)]
    · rw [if_neg c, if_neg (by omega), if_neg (by omega)]
theorem k_113 (Ln : Nat) : ck_113 Rel Ln := by
  intro σ hR
  obtain ⟨C, ⟨h, h', hc⟩, hA⟩ := hR.2.2.2.1
  obtain ⟨H, aX, aM, aG⟩ := acts_split hA
  have b := now_b hc
  by_cases c : σ 92 9 = 0
  · refine bad_fin hR (v := -1000002) ?_ ?_
    · rw [b_X_undo, aX.1, decide_eq_false (by omega)]; rfl
    · rw [b_M_undo, mup_ne (by omega), decide_eq_false (by omega)]; rfl
  · have k0 := aM.2.1
    have k2 := aM.2.2.1
    obtain ⟨σ1, e1, r1, a1, f1⟩ := x_back (Ln := Ln) h (by omega) (by omega) aX (by omega) aG (show 2 ≤ 98 by omega)
    have e9 : σ1 92 9 = σ 92 9 := f1 92 9 (by omega)
    obtain ⟨σ2, e2, f2, h2⟩ := m_undoL (Ln := Ln) (K := σ 92 9 - 1) (by omega) (by omega) 52 0 (mup (mup σ1 92 0 0) 92 9 (σ 92 9 - 1)) (by omega) (by omega) (mup_eq _ _ _ _)
    have g1 := aG (Int.toNat (σ 92 9 - 1)) (by omega)
    have wk := g1.1.1.1
    refine act_fin hR (v := σ 92 9 - 1) (C' := H (Int.toNat (σ 92 9 - 1))) (K' := σ 92 9 - 1) (H' := H) ?_ r1 a1 f1 (σ2 := σ2) ?_ ?_ ?_ (fun b j q => ?_) g1.1 (fun k hk => ⟨(aG k (by omega)).1, skel_trans (skel_symm g1.2) (aG k (by omega)).2⟩)
    · rw [b_X_undo, aX.1, decide_eq_true c, cond_true, e1, Option.bind_some]
      show some (σ1, σ1 21 0) = _
      rw [a1.1]
    · rw [b_M_undo, mup_ne (by omega), e9, decide_eq_true c, cond_true, mw (by omega) (by omega)]
      exact e2
    · refine rep_M_52 (by omega) (fun j hj => ?_) (aM.2.2.2 (Int.toNat (σ 92 9 - 1)) (by omega))
      show σ2 96 j = σ 99 (52 * Int.toNat (σ 92 9 - 1) + j)
      rw [h2, if_pos (by omega), mup_ne (by omega), mup_ne (by omega), f1 99 _ (by omega)]
    · refine ⟨?_, by omega, by omega, fun k hk => ?_⟩
      · rw [f2 92 9 (by omega), mup_eq]
      · refine rep_M_of (fun j => ?_) (aM.2.2.2 k (by omega))
        rw [f2 99 _ (by omega), mup_ne (by omega), mup_ne (by omega), f1 99 _ (by omega)]
    · rw [f2 b j (by omega), mup_ne (by omega), mup_ne (by omega)]
