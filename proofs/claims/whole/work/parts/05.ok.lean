/-! the program is what the bytes and the tables say -/
def okA (M : Nat) : Prop := (M = 242 ∨ (okM M = true ∧ Cond.code (mnm M) (mby M) (mmaxL M) (mrt M) ∈ tb)) ∧ ∀ i, i < mlen M → okE M i = true
theorem okR_at {M lo n : Nat} (h : okR M lo n = true) {i : Nat} (h1 : lo ≤ i) (h2 : i < lo + n) : okE M i = true := by
  have := List.all_eq_true.mp h (i - lo) (List.mem_range.mpr (by omega))
  rwa [show lo + (i - lo) = i by omega] at this
theorem okM_0 : okM 0 = true := by decide +kernel
theorem okC_0 : Cond.code (mnm 0) (mby 0) (mmaxL 0) (mrt 0) ∈ tb := tb_mem (tseg_in (j := 3) (List.mem_of_getElem? (i := 131) rfl)) rfl
theorem okR_0_0 : okR 0 0 42 = true := by decide +kernel
theorem okA_0 : okA 0 := ⟨Or.inr ⟨okM_0, okC_0⟩, fun i hi => by
  have hi : i < 42 := hi
  exact okR_at okR_0_0 (by omega) (by omega)⟩
theorem okM_3 : okM 3 = true := by decide +kernel
theorem okC_3 : Cond.code (mnm 3) (mby 3) (mmaxL 3) (mrt 3) ∈ tb := tb_mem (tseg_in (j := 1) (List.mem_of_getElem? (i := 150) rfl)) rfl
theorem okR_3_0 : okR 3 0 8 = true := by decide +kernel
theorem okA_3 : okA 3 := ⟨Or.inr ⟨okM_3, okC_3⟩, fun i hi => by
  have hi : i < 8 := hi
  exact okR_at okR_3_0 (by omega) (by omega)⟩
theorem okM_4 : okM 4 = true := by decide +kernel
theorem okC_4 : Cond.code (mnm 4) (mby 4) (mmaxL 4) (mrt 4) ∈ tb := tb_mem (tseg_in (j := 2) (List.mem_of_getElem? (i := 161) rfl)) rfl
theorem okR_4_0 : okR 4 0 4 = true := by decide +kernel
theorem okA_4 : okA 4 := ⟨Or.inr ⟨okM_4, okC_4⟩, fun i hi => by
  have hi : i < 4 := hi
  exact okR_at okR_4_0 (by omega) (by omega)⟩
theorem okM_5 : okM 5 = true := by decide +kernel
theorem okC_5 : Cond.code (mnm 5) (mby 5) (mmaxL 5) (mrt 5) ∈ tb := tb_mem (tseg_in (j := 2) (List.mem_of_getElem? (i := 190) rfl)) rfl
theorem okR_5_0 : okR 5 0 30 = true := by decide +kernel
theorem okA_5 : okA 5 := ⟨Or.inr ⟨okM_5, okC_5⟩, fun i hi => by
  have hi : i < 30 := hi
  exact okR_at okR_5_0 (by omega) (by omega)⟩
theorem okM_6 : okM 6 = true := by decide +kernel
theorem okC_6 : Cond.code (mnm 6) (mby 6) (mmaxL 6) (mrt 6) ∈ tb := tb_mem (tseg_in (j := 2) (List.mem_of_getElem? (i := 174) rfl)) rfl
theorem okR_6_0 : okR 6 0 29 = true := by decide +kernel
theorem okA_6 : okA 6 := ⟨Or.inr ⟨okM_6, okC_6⟩, fun i hi => by
  have hi : i < 29 := hi
  exact okR_at okR_6_0 (by omega) (by omega)⟩
theorem okM_7 : okM 7 = true := by decide +kernel
theorem okC_7 : Cond.code (mnm 7) (mby 7) (mmaxL 7) (mrt 7) ∈ tb := tb_mem (tseg_in (j := 1) (List.mem_of_getElem? (i := 190) rfl)) rfl
theorem okR_7_0 : okR 7 0 7 = true := by decide +kernel
theorem okA_7 : okA 7 := ⟨Or.inr ⟨okM_7, okC_7⟩, fun i hi => by
  have hi : i < 7 := hi
  exact okR_at okR_7_0 (by omega) (by omega)⟩
theorem okM_8 : okM 8 = true := by decide +kernel
theorem okC_8 : Cond.code (mnm 8) (mby 8) (mmaxL 8) (mrt 8) ∈ tb := tb_mem (tseg_in (j := 4) (List.mem_of_getElem? (i := 90) rfl)) rfl
theorem okR_8_0 : okR 8 0 10 = true := by decide +kernel
theorem okA_8 : okA 8 := ⟨Or.inr ⟨okM_8, okC_8⟩, fun i hi => by
  have hi : i < 10 := hi
  exact okR_at okR_8_0 (by omega) (by omega)⟩
theorem okM_9 : okM 9 = true := by decide +kernel
theorem okC_9 : Cond.code (mnm 9) (mby 9) (mmaxL 9) (mrt 9) ∈ tb := tb_mem (tseg_in (j := 4) (List.mem_of_getElem? (i := 118) rfl)) rfl
theorem okR_9_0 : okR 9 0 15 = true := by decide +kernel
theorem okA_9 : okA 9 := ⟨Or.inr ⟨okM_9, okC_9⟩, fun i hi => by
  have hi : i < 15 := hi
  exact okR_at okR_9_0 (by omega) (by omega)⟩
theorem okM_10 : okM 10 = true := by decide +kernel
theorem okC_10 : Cond.code (mnm 10) (mby 10) (mmaxL 10) (mrt 10) ∈ tb := tb_mem (tseg_in (j := 4) (List.mem_of_getElem? (i := 94) rfl)) rfl
theorem okR_10_0 : okR 10 0 12 = true := by decide +kernel
theorem okA_10 : okA 10 := ⟨Or.inr ⟨okM_10, okC_10⟩, fun i hi => by
  have hi : i < 12 := hi
  exact okR_at okR_10_0 (by omega) (by omega)⟩
theorem okM_11 : okM 11 = true := by decide +kernel
theorem okC_11 : Cond.code (mnm 11) (mby 11) (mmaxL 11) (mrt 11) ∈ tb := tb_mem (tseg_in (j := 4) (List.mem_of_getElem? (i := 97) rfl)) rfl
theorem okR_11_0 : okR 11 0 27 = true := by decide +kernel
theorem okA_11 : okA 11 := ⟨Or.inr ⟨okM_11, okC_11⟩, fun i hi => by
  have hi : i < 27 := hi
  exact okR_at okR_11_0 (by omega) (by omega)⟩
theorem okM_12 : okM 12 = true := by decide +kernel
theorem okC_12 : Cond.code (mnm 12) (mby 12) (mmaxL 12) (mrt 12) ∈ tb := tb_mem (tseg_in (j := 4) (List.mem_of_getElem? (i := 110) rfl)) rfl
theorem okR_12_0 : okR 12 0 17 = true := by decide +kernel
theorem okA_12 : okA 12 := ⟨Or.inr ⟨okM_12, okC_12⟩, fun i hi => by
  have hi : i < 17 := hi
  exact okR_at okR_12_0 (by omega) (by omega)⟩
theorem okM_13 : okM 13 = true := by decide +kernel
theorem okC_13 : Cond.code (mnm 13) (mby 13) (mmaxL 13) (mrt 13) ∈ tb := tb_mem (tseg_in (j := 4) (List.mem_of_getElem? (i := 106) rfl)) rfl
theorem okR_13_0 : okR 13 0 107 = true := by decide +kernel
theorem okA_13 : okA 13 := ⟨Or.inr ⟨okM_13, okC_13⟩, fun i hi => by
  have hi : i < 107 := hi
  exact okR_at okR_13_0 (by omega) (by omega)⟩
theorem okM_14 : okM 14 = true := by decide +kernel
theorem okC_14 : Cond.code (mnm 14) (mby 14) (mmaxL 14) (mrt 14) ∈ tb := tb_mem (tseg_in (j := 1) (List.mem_of_getElem? (i := 47) rfl)) rfl
theorem okR_14_0 : okR 14 0 39 = true := by decide +kernel
theorem okA_14 : okA 14 := ⟨Or.inr ⟨okM_14, okC_14⟩, fun i hi => by
  have hi : i < 39 := hi
  exact okR_at okR_14_0 (by omega) (by omega)⟩
theorem okM_15 : okM 15 = true := by decide +kernel
theorem okC_15 : Cond.code (mnm 15) (mby 15) (mmaxL 15) (mrt 15) ∈ tb := tb_mem (tseg_in (j := 2) (List.mem_of_getElem? (i := 186) rfl)) rfl
theorem okR_15_0 : okR 15 0 7 = true := by decide +kernel
theorem okA_15 : okA 15 := ⟨Or.inr ⟨okM_15, okC_15⟩, fun i hi => by
  have hi : i < 7 := hi
  exact okR_at okR_15_0 (by omega) (by omega)⟩
theorem okM_16 : okM 16 = true := by decide +kernel
theorem okC_16 : Cond.code (mnm 16) (mby 16) (mmaxL 16) (mrt 16) ∈ tb := tb_mem (tseg_in (j := 3) (List.mem_of_getElem? (i := 9) rfl)) rfl
theorem okR_16_0 : okR 16 0 8 = true := by decide +kernel
theorem okA_16 : okA 16 := ⟨Or.inr ⟨okM_16, okC_16⟩, fun i hi => by
  have hi : i < 8 := hi
  exact okR_at okR_16_0 (by omega) (by omega)⟩
theorem okM_17 : okM 17 = true := by decide +kernel
theorem okC_17 : Cond.code (mnm 17) (mby 17) (mmaxL 17) (mrt 17) ∈ tb := tb_mem (tseg_in (j := 3) (List.mem_of_getElem? (i := 22) rfl)) rfl
theorem okR_17_0 : okR 17 0 8 = true := by decide +kernel
theorem okA_17 : okA 17 := ⟨Or.inr ⟨okM_17, okC_17⟩, fun i hi => by
  have hi : i < 8 := hi
  exact okR_at okR_17_0 (by omega) (by omega)⟩
theorem okM_18 : okM 18 = true := by decide +kernel
theorem okC_18 : Cond.code (mnm 18) (mby 18) (mmaxL 18) (mrt 18) ∈ tb := tb_mem (tseg_in (j := 3) (List.mem_of_getElem? (i := 30) rfl)) rfl
theorem okR_18_0 : okR 18 0 8 = true := by decide +kernel
theorem okA_18 : okA 18 := ⟨Or.inr ⟨okM_18, okC_18⟩, fun i hi => by
  have hi : i < 8 := hi
  exact okR_at okR_18_0 (by omega) (by omega)⟩
theorem okM_19 : okM 19 = true := by decide +kernel
theorem okC_19 : Cond.code (mnm 19) (mby 19) (mmaxL 19) (mrt 19) ∈ tb := tb_mem (tseg_in (j := 2) (List.mem_of_getElem? (i := 205) rfl)) rfl
theorem okR_19_0 : okR 19 0 9 = true := by decide +kernel
theorem okA_19 : okA 19 := ⟨Or.inr ⟨okM_19, okC_19⟩, fun i hi => by
  have hi : i < 9 := hi
  exact okR_at okR_19_0 (by omega) (by omega)⟩
theorem okM_20 : okM 20 = true := by decide +kernel
theorem okC_20 : Cond.code (mnm 20) (mby 20) (mmaxL 20) (mrt 20) ∈ tb := tb_mem (tseg_in (j := 2) (List.mem_of_getElem? (i := 85) rfl)) rfl
theorem okR_20_0 : okR 20 0 13 = true := by decide +kernel
theorem okA_20 : okA 20 := ⟨Or.inr ⟨okM_20, okC_20⟩, fun i hi => by
  have hi : i < 13 := hi
  exact okR_at okR_20_0 (by omega) (by omega)⟩
theorem okM_21 : okM 21 = true := by decide +kernel
theorem okC_21 : Cond.code (mnm 21) (mby 21) (mmaxL 21) (mrt 21) ∈ tb := tb_mem (tseg_in (j := 2) (List.mem_of_getElem? (i := 119) rfl)) rfl
theorem okR_21_0 : okR 21 0 21 = true := by decide +kernel
theorem okA_21 : okA 21 := ⟨Or.inr ⟨okM_21, okC_21⟩, fun i hi => by
  have hi : i < 21 := hi
  exact okR_at okR_21_0 (by omega) (by omega)⟩
theorem okM_22 : okM 22 = true := by decide +kernel
theorem okC_22 : Cond.code (mnm 22) (mby 22) (mmaxL 22) (mrt 22) ∈ tb := tb_mem (tseg_in (j := 2) (List.mem_of_getElem? (i := 131) rfl)) rfl
theorem okR_22_0 : okR 22 0 30 = true := by decide +kernel
theorem okA_22 : okA 22 := ⟨Or.inr ⟨okM_22, okC_22⟩, fun i hi => by
  have hi : i < 30 := hi
  exact okR_at okR_22_0 (by omega) (by omega)⟩
theorem okM_23 : okM 23 = true := by decide +kernel
theorem okC_23 : Cond.code (mnm 23) (mby 23) (mmaxL 23) (mrt 23) ∈ tb := tb_mem (tseg_in (j := 2) (List.mem_of_getElem? (i := 150) rfl)) rfl
theorem okR_23_0 : okR 23 0 36 = true := by decide +kernel
theorem okA_23 : okA 23 := ⟨Or.inr ⟨okM_23, okC_23⟩, fun i hi => by
  have hi : i < 36 := hi
  exact okR_at okR_23_0 (by omega) (by omega)⟩
theorem okM_24 : okM 24 = true := by decide +kernel
theorem okC_24 : Cond.code (mnm 24) (mby 24) (mmaxL 24) (mrt 24) ∈ tb := tb_mem (tseg_in (j := 2) (List.mem_of_getElem? (i := 156) rfl)) rfl
theorem okR_24_0 : okR 24 0 99 = true := by decide +kernel
theorem okA_24 : okA 24 := ⟨Or.inr ⟨okM_24, okC_24⟩, fun i hi => by
  have hi : i < 99 := hi
  exact okR_at okR_24_0 (by omega) (by omega)⟩
theorem okM_25 : okM 25 = true := by decide +kernel
theorem okC_25 : Cond.code (mnm 25) (mby 25) (mmaxL 25) (mrt 25) ∈ tb := tb_mem (tseg_in (j := 2) (List.mem_of_getElem? (i := 194) rfl)) rfl
theorem okR_25_0 : okR 25 0 34 = true := by decide +kernel
theorem okA_25 : okA 25 := ⟨Or.inr ⟨okM_25, okC_25⟩, fun i hi => by
  have hi : i < 34 := hi
  exact okR_at okR_25_0 (by omega) (by omega)⟩
theorem okM_26 : okM 26 = true := by decide +kernel
theorem okC_26 : Cond.code (mnm 26) (mby 26) (mmaxL 26) (mrt 26) ∈ tb := tb_mem (tseg_in (j := 2) (List.mem_of_getElem? (i := 178) rfl)) rfl
theorem okR_26_0 : okR 26 0 34 = true := by decide +kernel
theorem okA_26 : okA 26 := ⟨Or.inr ⟨okM_26, okC_26⟩, fun i hi => by
  have hi : i < 34 := hi
  exact okR_at okR_26_0 (by omega) (by omega)⟩
theorem okM_27 : okM 27 = true := by decide +kernel
theorem okC_27 : Cond.code (mnm 27) (mby 27) (mmaxL 27) (mrt 27) ∈ tb := tb_mem (tseg_in (j := 2) (List.mem_of_getElem? (i := 217) rfl)) rfl
theorem okR_27_0 : okR 27 0 16 = true := by decide +kernel
theorem okA_27 : okA 27 := ⟨Or.inr ⟨okM_27, okC_27⟩, fun i hi => by
  have hi : i < 16 := hi
  exact okR_at okR_27_0 (by omega) (by omega)⟩
theorem okM_28 : okM 28 = true := by decide +kernel
theorem okC_28 : Cond.code (mnm 28) (mby 28) (mmaxL 28) (mrt 28) ∈ tb := tb_mem (tseg_in (j := 2) (List.mem_of_getElem? (i := 225) rfl)) rfl
theorem okR_28_0 : okR 28 0 16 = true := by decide +kernel
theorem okA_28 : okA 28 := ⟨Or.inr ⟨okM_28, okC_28⟩, fun i hi => by
  have hi : i < 16 := hi
  exact okR_at okR_28_0 (by omega) (by omega)⟩
theorem okM_29 : okM 29 = true := by decide +kernel
theorem okC_29 : Cond.code (mnm 29) (mby 29) (mmaxL 29) (mrt 29) ∈ tb := tb_mem (tseg_in (j := 2) (List.mem_of_getElem? (i := 221) rfl)) rfl
theorem okR_29_0 : okR 29 0 42 = true := by decide +kernel
theorem okA_29 : okA 29 := ⟨Or.inr ⟨okM_29, okC_29⟩, fun i hi => by
  have hi : i < 42 := hi
  exact okR_at okR_29_0 (by omega) (by omega)⟩
theorem okM_30 : okM 30 = true := by decide +kernel
theorem okC_30 : Cond.code (mnm 30) (mby 30) (mmaxL 30) (mrt 30) ∈ tb := tb_mem (tseg_in (j := 2) (List.mem_of_getElem? (i := 213) rfl)) rfl
theorem okR_30_0 : okR 30 0 26 = true := by decide +kernel
theorem okA_30 : okA 30 := ⟨Or.inr ⟨okM_30, okC_30⟩, fun i hi => by
  have hi : i < 26 := hi
  exact okR_at okR_30_0 (by omega) (by omega)⟩
theorem okM_31 : okM 31 = true := by decide +kernel
theorem okC_31 : Cond.code (mnm 31) (mby 31) (mmaxL 31) (mrt 31) ∈ tb := tb_mem (tseg_in (j := 2) (List.mem_of_getElem? (i := 209) rfl)) rfl
theorem okR_31_0 : okR 31 0 54 = true := by decide +kernel
theorem okA_31 : okA 31 := ⟨Or.inr ⟨okM_31, okC_31⟩, fun i hi => by
  have hi : i < 54 := hi
  exact okR_at okR_31_0 (by omega) (by omega)⟩
theorem okM_32 : okM 32 = true := by decide +kernel
theorem okC_32 : Cond.code (mnm 32) (mby 32) (mmaxL 32) (mrt 32) ∈ tb := tb_mem (tseg_in (j := 2) (List.mem_of_getElem? (i := 201) rfl)) rfl
theorem okR_32_0 : okR 32 0 28 = true := by decide +kernel
theorem okA_32 : okA 32 := ⟨Or.inr ⟨okM_32, okC_32⟩, fun i hi => by
  have hi : i < 28 := hi
  exact okR_at okR_32_0 (by omega) (by omega)⟩
theorem okM_33 : okM 33 = true := by decide +kernel
theorem okC_33 : Cond.code (mnm 33) (mby 33) (mmaxL 33) (mrt 33) ∈ tb := tb_mem (tseg_in (j := 2) (List.mem_of_getElem? (i := 229) rfl)) rfl
theorem okR_33_0 : okR 33 0 18 = true := by decide +kernel
theorem okA_33 : okA 33 := ⟨Or.inr ⟨okM_33, okC_33⟩, fun i hi => by
  have hi : i < 18 := hi
  exact okR_at okR_33_0 (by omega) (by omega)⟩
theorem okM_34 : okM 34 = true := by decide +kernel
theorem okC_34 : Cond.code (mnm 34) (mby 34) (mmaxL 34) (mrt 34) ∈ tb := tb_mem (tseg_in (j := 2) (List.mem_of_getElem? (i := 233) rfl)) rfl
theorem okR_34_0 : okR 34 0 76 = true := by decide +kernel
theorem okA_34 : okA 34 := ⟨Or.inr ⟨okM_34, okC_34⟩, fun i hi => by
  have hi : i < 76 := hi
  exact okR_at okR_34_0 (by omega) (by omega)⟩
theorem okM_35 : okM 35 = true := by decide +kernel
theorem okC_35 : Cond.code (mnm 35) (mby 35) (mmaxL 35) (mrt 35) ∈ tb := tb_mem (tseg_in (j := 3) (List.mem_of_getElem? (i := 14) rfl)) rfl
theorem okR_35_0 : okR 35 0 13 = true := by decide +kernel
theorem okA_35 : okA 35 := ⟨Or.inr ⟨okM_35, okC_35⟩, fun i hi => by
  have hi : i < 13 := hi
  exact okR_at okR_35_0 (by omega) (by omega)⟩
theorem okM_36 : okM 36 = true := by decide +kernel
theorem okC_36 : Cond.code (mnm 36) (mby 36) (mmaxL 36) (mrt 36) ∈ tb := tb_mem (tseg_in (j := 4) (List.mem_of_getElem? (i := 132) rfl)) rfl
theorem okR_36_0 : okR 36 0 19 = true := by decide +kernel
theorem okA_36 : okA 36 := ⟨Or.inr ⟨okM_36, okC_36⟩, fun i hi => by
  have hi : i < 19 := hi
  exact okR_at okR_36_0 (by omega) (by omega)⟩
theorem okM_37 : okM 37 = true := by decide +kernel
theorem okC_37 : Cond.code (mnm 37) (mby 37) (mmaxL 37) (mrt 37) ∈ tb := tb_mem (tseg_in (j := 3) (List.mem_of_getElem? (i := 1) rfl)) rfl
theorem okR_37_0 : okR 37 0 17 = true := by decide +kernel
theorem okA_37 : okA 37 := ⟨Or.inr ⟨okM_37, okC_37⟩, fun i hi => by
  have hi : i < 17 := hi
  exact okR_at okR_37_0 (by omega) (by omega)⟩
theorem okM_38 : okM 38 = true := by decide +kernel
theorem okC_38 : Cond.code (mnm 38) (mby 38) (mmaxL 38) (mrt 38) ∈ tb := tb_mem (tseg_in (j := 3) (List.mem_of_getElem? (i := 62) rfl)) rfl
theorem okR_38_0 : okR 38 0 14 = true := by decide +kernel
theorem okA_38 : okA 38 := ⟨Or.inr ⟨okM_38, okC_38⟩, fun i hi => by
  have hi : i < 14 := hi
  exact okR_at okR_38_0 (by omega) (by omega)⟩
theorem okM_39 : okM 39 = true := by decide +kernel
theorem okC_39 : Cond.code (mnm 39) (mby 39) (mmaxL 39) (mrt 39) ∈ tb := tb_mem (tseg_in (j := 3) (List.mem_of_getElem? (i := 58) rfl)) rfl
theorem okR_39_0 : okR 39 0 23 = true := by decide +kernel
theorem okA_39 : okA 39 := ⟨Or.inr ⟨okM_39, okC_39⟩, fun i hi => by
  have hi : i < 23 := hi
  exact okR_at okR_39_0 (by omega) (by omega)⟩
theorem okM_40 : okM 40 = true := by decide +kernel
theorem okC_40 : Cond.code (mnm 40) (mby 40) (mmaxL 40) (mrt 40) ∈ tb := tb_mem (tseg_in (j := 3) (List.mem_of_getElem? (i := 210) rfl)) rfl
theorem okR_40_0 : okR 40 0 26 = true := by decide +kernel
theorem okA_40 : okA 40 := ⟨Or.inr ⟨okM_40, okC_40⟩, fun i hi => by
  have hi : i < 26 := hi
  exact okR_at okR_40_0 (by omega) (by omega)⟩
theorem okM_41 : okM 41 = true := by decide +kernel
theorem okC_41 : Cond.code (mnm 41) (mby 41) (mmaxL 41) (mrt 41) ∈ tb := tb_mem (tseg_in (j := 3) (List.mem_of_getElem? (i := 66) rfl)) rfl
theorem okR_41_0 : okR 41 0 23 = true := by decide +kernel
theorem okA_41 : okA 41 := ⟨Or.inr ⟨okM_41, okC_41⟩, fun i hi => by
  have hi : i < 23 := hi
  exact okR_at okR_41_0 (by omega) (by omega)⟩
theorem okM_42 : okM 42 = true := by decide +kernel
theorem okC_42 : Cond.code (mnm 42) (mby 42) (mmaxL 42) (mrt 42) ∈ tb := tb_mem (tseg_in (j := 3) (List.mem_of_getElem? (i := 45) rfl)) rfl
theorem okR_42_0 : okR 42 0 35 = true := by decide +kernel
theorem okA_42 : okA 42 := ⟨Or.inr ⟨okM_42, okC_42⟩, fun i hi => by
  have hi : i < 35 := hi
  exact okR_at okR_42_0 (by omega) (by omega)⟩
theorem okM_43 : okM 43 = true := by decide +kernel
theorem okC_43 : Cond.code (mnm 43) (mby 43) (mmaxL 43) (mrt 43) ∈ tb := tb_mem (tseg_in (j := 3) (List.mem_of_getElem? (i := 218) rfl)) rfl
theorem okR_43_0 : okR 43 0 23 = true := by decide +kernel
theorem okA_43 : okA 43 := ⟨Or.inr ⟨okM_43, okC_43⟩, fun i hi => by
  have hi : i < 23 := hi
  exact okR_at okR_43_0 (by omega) (by omega)⟩
theorem okM_44 : okM 44 = true := by decide +kernel
theorem okC_44 : Cond.code (mnm 44) (mby 44) (mmaxL 44) (mrt 44) ∈ tb := tb_mem (tseg_in (j := 3) (List.mem_of_getElem? (i := 193) rfl)) rfl
theorem okR_44_0 : okR 44 0 47 = true := by decide +kernel
theorem okA_44 : okA 44 := ⟨Or.inr ⟨okM_44, okC_44⟩, fun i hi => by
  have hi : i < 47 := hi
  exact okR_at okR_44_0 (by omega) (by omega)⟩
theorem okM_45 : okM 45 = true := by decide +kernel
theorem okC_45 : Cond.code (mnm 45) (mby 45) (mmaxL 45) (mrt 45) ∈ tb := tb_mem (tseg_in (j := 3) (List.mem_of_getElem? (i := 188) rfl)) rfl
theorem okR_45_0 : okR 45 0 28 = true := by decide +kernel
theorem okA_45 : okA 45 := ⟨Or.inr ⟨okM_45, okC_45⟩, fun i hi => by
  have hi : i < 28 := hi
  exact okR_at okR_45_0 (by omega) (by omega)⟩
theorem okM_46 : okM 46 = true := by decide +kernel
theorem okC_46 : Cond.code (mnm 46) (mby 46) (mmaxL 46) (mrt 46) ∈ tb := tb_mem (tseg_in (j := 3) (List.mem_of_getElem? (i := 202) rfl)) rfl
theorem okR_46_0 : okR 46 0 22 = true := by decide +kernel
theorem okA_46 : okA 46 := ⟨Or.inr ⟨okM_46, okC_46⟩, fun i hi => by
  have hi : i < 22 := hi
  exact okR_at okR_46_0 (by omega) (by omega)⟩
theorem okM_47 : okM 47 = true := by decide +kernel
theorem okC_47 : Cond.code (mnm 47) (mby 47) (mmaxL 47) (mrt 47) ∈ tb := tb_mem (tseg_in (j := 1) (List.mem_of_getElem? (i := 41) rfl)) rfl
theorem okR_47_0 : okR 47 0 12 = true := by decide +kernel
theorem okA_47 : okA 47 := ⟨Or.inr ⟨okM_47, okC_47⟩, fun i hi => by
  have hi : i < 12 := hi
  exact okR_at okR_47_0 (by omega) (by omega)⟩
theorem okM_48 : okM 48 = true := by decide +kernel
theorem okC_48 : Cond.code (mnm 48) (mby 48) (mmaxL 48) (mrt 48) ∈ tb := tb_mem (tseg_in (j := 2) (List.mem_of_getElem? (i := 67) rfl)) rfl
theorem okR_48_0 : okR 48 0 8 = true := by decide +kernel
theorem okA_48 : okA 48 := ⟨Or.inr ⟨okM_48, okC_48⟩, fun i hi => by
  have hi : i < 8 := hi
  exact okR_at okR_48_0 (by omega) (by omega)⟩
theorem okM_49 : okM 49 = true := by decide +kernel
theorem okC_49 : Cond.code (mnm 49) (mby 49) (mmaxL 49) (mrt 49) ∈ tb := tb_mem (tseg_in (j := 2) (List.mem_of_getElem? (i := 72) rfl)) rfl
theorem okR_49_0 : okR 49 0 18 = true := by decide +kernel
theorem okA_49 : okA 49 := ⟨Or.inr ⟨okM_49, okC_49⟩, fun i hi => by
  have hi : i < 18 := hi
  exact okR_at okR_49_0 (by omega) (by omega)⟩
theorem okM_50 : okM 50 = true := by decide +kernel
theorem okC_50 : Cond.code (mnm 50) (mby 50) (mmaxL 50) (mrt 50) ∈ tb := tb_mem (tseg_in (j := 2) (List.mem_of_getElem? (i := 81) rfl)) rfl
theorem okR_50_0 : okR 50 0 30 = true := by decide +kernel
theorem okA_50 : okA 50 := ⟨Or.inr ⟨okM_50, okC_50⟩, fun i hi => by
  have hi : i < 30 := hi
  exact okR_at okR_50_0 (by omega) (by omega)⟩
theorem okM_51 : okM 51 = true := by decide +kernel
theorem okC_51 : Cond.code (mnm 51) (mby 51) (mmaxL 51) (mrt 51) ∈ tb := tb_mem (tseg_in (j := 2) (List.mem_of_getElem? (i := 89) rfl)) rfl
theorem okR_51_0 : okR 51 0 30 = true := by decide +kernel
theorem okA_51 : okA 51 := ⟨Or.inr ⟨okM_51, okC_51⟩, fun i hi => by
  have hi : i < 30 := hi
  exact okR_at okR_51_0 (by omega) (by omega)⟩
theorem okM_52 : okM 52 = true := by decide +kernel
theorem okC_52 : Cond.code (mnm 52) (mby 52) (mmaxL 52) (mrt 52) ∈ tb := tb_mem (tseg_in (j := 2) (List.mem_of_getElem? (i := 123) rfl)) rfl
theorem okR_52_0 : okR 52 0 19 = true := by decide +kernel
theorem okA_52 : okA 52 := ⟨Or.inr ⟨okM_52, okC_52⟩, fun i hi => by
  have hi : i < 19 := hi
  exact okR_at okR_52_0 (by omega) (by omega)⟩
theorem okM_53 : okM 53 = true := by decide +kernel
theorem okC_53 : Cond.code (mnm 53) (mby 53) (mmaxL 53) (mrt 53) ∈ tb := tb_mem (tseg_in (j := 2) (List.mem_of_getElem? (i := 127) rfl)) rfl
theorem okR_53_0 : okR 53 0 60 = true := by decide +kernel
theorem okA_53 : okA 53 := ⟨Or.inr ⟨okM_53, okC_53⟩, fun i hi => by
  have hi : i < 60 := hi
  exact okR_at okR_53_0 (by omega) (by omega)⟩
theorem okM_54 : okM 54 = true := by decide +kernel
theorem okC_54 : Cond.code (mnm 54) (mby 54) (mmaxL 54) (mrt 54) ∈ tb := tb_mem (tseg_in (j := 2) (List.mem_of_getElem? (i := 135) rfl)) rfl
theorem okR_54_0 : okR 54 0 20 = true := by decide +kernel
theorem okA_54 : okA 54 := ⟨Or.inr ⟨okM_54, okC_54⟩, fun i hi => by
  have hi : i < 20 := hi
  exact okR_at okR_54_0 (by omega) (by omega)⟩
theorem okM_55 : okM 55 = true := by decide +kernel
theorem okC_55 : Cond.code (mnm 55) (mby 55) (mmaxL 55) (mrt 55) ∈ tb := tb_mem (tseg_in (j := 2) (List.mem_of_getElem? (i := 139) rfl)) rfl
theorem okR_55_0 : okR 55 0 61 = true := by decide +kernel
theorem okA_55 : okA 55 := ⟨Or.inr ⟨okM_55, okC_55⟩, fun i hi => by
  have hi : i < 61 := hi
  exact okR_at okR_55_0 (by omega) (by omega)⟩
theorem okM_56 : okM 56 = true := by decide +kernel
theorem okC_56 : Cond.code (mnm 56) (mby 56) (mmaxL 56) (mrt 56) ∈ tb := tb_mem (tseg_in (j := 2) (List.mem_of_getElem? (i := 105) rfl)) rfl
theorem okR_56_0 : okR 56 0 7 = true := by decide +kernel
theorem okA_56 : okA 56 := ⟨Or.inr ⟨okM_56, okC_56⟩, fun i hi => by
  have hi : i < 7 := hi
  exact okR_at okR_56_0 (by omega) (by omega)⟩
theorem okM_57 : okM 57 = true := by decide +kernel
theorem okC_57 : Cond.code (mnm 57) (mby 57) (mmaxL 57) (mrt 57) ∈ tb := tb_mem (tseg_in (j := 2) (List.mem_of_getElem? (i := 97) rfl)) rfl
theorem okR_57_0 : okR 57 0 5 = true := by decide +kernel
theorem okA_57 : okA 57 := ⟨Or.inr ⟨okM_57, okC_57⟩, fun i hi => by
  have hi : i < 5 := hi
  exact okR_at okR_57_0 (by omega) (by omega)⟩
theorem okM_58 : okM 58 = true := by decide +kernel
theorem okC_58 : Cond.code (mnm 58) (mby 58) (mmaxL 58) (mrt 58) ∈ tb := tb_mem (tseg_in (j := 2) (List.mem_of_getElem? (i := 101) rfl)) rfl
theorem okR_58_0 : okR 58 0 13 = true := by decide +kernel
theorem okA_58 : okA 58 := ⟨Or.inr ⟨okM_58, okC_58⟩, fun i hi => by
  have hi : i < 13 := hi
  exact okR_at okR_58_0 (by omega) (by omega)⟩
theorem okM_59 : okM 59 = true := by decide +kernel
theorem okC_59 : Cond.code (mnm 59) (mby 59) (mmaxL 59) (mrt 59) ∈ tb := tb_mem (tseg_in (j := 2) (List.mem_of_getElem? (i := 93) rfl)) rfl
theorem okR_59_0 : okR 59 0 19 = true := by decide +kernel
theorem okA_59 : okA 59 := ⟨Or.inr ⟨okM_59, okC_59⟩, fun i hi => by
  have hi : i < 19 := hi
  exact okR_at okR_59_0 (by omega) (by omega)⟩
theorem okM_60 : okM 60 = true := by decide +kernel
theorem okC_60 : Cond.code (mnm 60) (mby 60) (mmaxL 60) (mrt 60) ∈ tb := tb_mem (tseg_in (j := 2) (List.mem_of_getElem? (i := 146) rfl)) rfl
theorem okR_60_0 : okR 60 0 20 = true := by decide +kernel
theorem okA_60 : okA 60 := ⟨Or.inr ⟨okM_60, okC_60⟩, fun i hi => by
  have hi : i < 20 := hi
  exact okR_at okR_60_0 (by omega) (by omega)⟩
theorem okM_61 : okM 61 = true := by decide +kernel
theorem okC_61 : Cond.code (mnm 61) (mby 61) (mmaxL 61) (mrt 61) ∈ tb := tb_mem (tseg_in (j := 2) (List.mem_of_getElem? (i := 142) rfl)) rfl
theorem okR_61_0 : okR 61 0 14 = true := by decide +kernel
theorem okA_61 : okA 61 := ⟨Or.inr ⟨okM_61, okC_61⟩, fun i hi => by
  have hi : i < 14 := hi
  exact okR_at okR_61_0 (by omega) (by omega)⟩
theorem okM_62 : okM 62 = true := by decide +kernel
theorem okC_62 : Cond.code (mnm 62) (mby 62) (mmaxL 62) (mrt 62) ∈ tb := tb_mem (tseg_in (j := 2) (List.mem_of_getElem? (i := 110) rfl)) rfl
theorem okR_62_0 : okR 62 0 62 = true := by decide +kernel
theorem okA_62 : okA 62 := ⟨Or.inr ⟨okM_62, okC_62⟩, fun i hi => by
  have hi : i < 62 := hi
  exact okR_at okR_62_0 (by omega) (by omega)⟩
theorem okM_63 : okM 63 = true := by decide +kernel
theorem okC_63 : Cond.code (mnm 63) (mby 63) (mmaxL 63) (mrt 63) ∈ tb := tb_mem (tseg_in (j := 2) (List.mem_of_getElem? (i := 114) rfl)) rfl
theorem okR_63_0 : okR 63 0 21 = true := by decide +kernel
theorem okA_63 : okA 63 := ⟨Or.inr ⟨okM_63, okC_63⟩, fun i hi => by
  have hi : i < 21 := hi
  exact okR_at okR_63_0 (by omega) (by omega)⟩
theorem okM_64 : okM 64 = true := by decide +kernel
theorem okC_64 : Cond.code (mnm 64) (mby 64) (mmaxL 64) (mrt 64) ∈ tb := tb_mem (tseg_in (j := 1) (List.mem_of_getElem? (i := 24) rfl)) rfl
theorem okR_64_0 : okR 64 0 27 = true := by decide +kernel
theorem okA_64 : okA 64 := ⟨Or.inr ⟨okM_64, okC_64⟩, fun i hi => by
  have hi : i < 27 := hi
  exact okR_at okR_64_0 (by omega) (by omega)⟩
theorem okM_65 : okM 65 = true := by decide +kernel
theorem okC_65 : Cond.code (mnm 65) (mby 65) (mmaxL 65) (mrt 65) ∈ tb := tb_mem (tseg_in (j := 1) (List.mem_of_getElem? (i := 234) rfl)) rfl
theorem okR_65_0 : okR 65 0 5 = true := by decide +kernel
theorem okA_65 : okA 65 := ⟨Or.inr ⟨okM_65, okC_65⟩, fun i hi => by
  have hi : i < 5 := hi
  exact okR_at okR_65_0 (by omega) (by omega)⟩
theorem okM_66 : okM 66 = true := by decide +kernel
theorem okC_66 : Cond.code (mnm 66) (mby 66) (mmaxL 66) (mrt 66) ∈ tb := tb_mem (tseg_in (j := 2) (List.mem_of_getElem? (i := 24) rfl)) rfl
theorem okR_66_0 : okR 66 0 10 = true := by decide +kernel
theorem okA_66 : okA 66 := ⟨Or.inr ⟨okM_66, okC_66⟩, fun i hi => by
  have hi : i < 10 := hi
  exact okR_at okR_66_0 (by omega) (by omega)⟩
theorem okM_67 : okM 67 = true := by decide +kernel
theorem okC_67 : Cond.code (mnm 67) (mby 67) (mmaxL 67) (mrt 67) ∈ tb := tb_mem (tseg_in (j := 4) (List.mem_of_getElem? (i := 128) rfl)) rfl
theorem okR_67_0 : okR 67 0 16 = true := by decide +kernel
theorem okA_67 : okA 67 := ⟨Or.inr ⟨okM_67, okC_67⟩, fun i hi => by
  have hi : i < 16 := hi
  exact okR_at okR_67_0 (by omega) (by omega)⟩
theorem okM_68 : okM 68 = true := by decide +kernel
theorem okC_68 : Cond.code (mnm 68) (mby 68) (mmaxL 68) (mrt 68) ∈ tb := tb_mem (tseg_in (j := 2) (List.mem_of_getElem? (i := 20) rfl)) rfl
theorem okR_68_0 : okR 68 0 16 = true := by decide +kernel
theorem okA_68 : okA 68 := ⟨Or.inr ⟨okM_68, okC_68⟩, fun i hi => by
  have hi : i < 16 := hi
  exact okR_at okR_68_0 (by omega) (by omega)⟩
theorem okM_69 : okM 69 = true := by decide +kernel
theorem okC_69 : Cond.code (mnm 69) (mby 69) (mmaxL 69) (mrt 69) ∈ tb := tb_mem (tseg_in (j := 2) (List.mem_of_getElem? (i := 43) rfl)) rfl
theorem okR_69_0 : okR 69 0 37 = true := by decide +kernel
theorem okA_69 : okA 69 := ⟨Or.inr ⟨okM_69, okC_69⟩, fun i hi => by
  have hi : i < 37 := hi
  exact okR_at okR_69_0 (by omega) (by omega)⟩
theorem okM_70 : okM 70 = true := by decide +kernel
theorem okC_70 : Cond.code (mnm 70) (mby 70) (mmaxL 70) (mrt 70) ∈ tb := tb_mem (tseg_in (j := 2) (List.mem_of_getElem? (i := 28) rfl)) rfl
theorem okR_70_0 : okR 70 0 22 = true := by decide +kernel
theorem okA_70 : okA 70 := ⟨Or.inr ⟨okM_70, okC_70⟩, fun i hi => by
  have hi : i < 22 := hi
  exact okR_at okR_70_0 (by omega) (by omega)⟩
theorem okM_71 : okM 71 = true := by decide +kernel
theorem okC_71 : Cond.code (mnm 71) (mby 71) (mmaxL 71) (mrt 71) ∈ tb := tb_mem (tseg_in (j := 2) (List.mem_of_getElem? (i := 8) rfl)) rfl
theorem okR_71_0 : okR 71 0 27 = true := by decide +kernel
theorem okA_71 : okA 71 := ⟨Or.inr ⟨okM_71, okC_71⟩, fun i hi => by
  have hi : i < 27 := hi
  exact okR_at okR_71_0 (by omega) (by omega)⟩
theorem okM_72 : okM 72 = true := by decide +kernel
theorem okC_72 : Cond.code (mnm 72) (mby 72) (mmaxL 72) (mrt 72) ∈ tb := tb_mem (tseg_in (j := 2) (List.mem_of_getElem? (i := 59) rfl)) rfl
theorem okR_72_0 : okR 72 0 12 = true := by decide +kernel
theorem okA_72 : okA 72 := ⟨Or.inr ⟨okM_72, okC_72⟩, fun i hi => by
  have hi : i < 12 := hi
  exact okR_at okR_72_0 (by omega) (by omega)⟩
theorem okM_73 : okM 73 = true := by decide +kernel
theorem okC_73 : Cond.code (mnm 73) (mby 73) (mmaxL 73) (mrt 73) ∈ tb := tb_mem (tseg_in (j := 2) (List.mem_of_getElem? (i := 32) rfl)) rfl
theorem okR_73_0 : okR 73 0 18 = true := by decide +kernel
theorem okA_73 : okA 73 := ⟨Or.inr ⟨okM_73, okC_73⟩, fun i hi => by
  have hi : i < 18 := hi
  exact okR_at okR_73_0 (by omega) (by omega)⟩
theorem okM_74 : okM 74 = true := by decide +kernel
theorem okC_74 : Cond.code (mnm 74) (mby 74) (mmaxL 74) (mrt 74) ∈ tb := tb_mem (tseg_in (j := 2) (List.mem_of_getElem? (i := 35) rfl)) rfl
theorem okR_74_0 : okR 74 0 10 = true := by decide +kernel
theorem okA_74 : okA 74 := ⟨Or.inr ⟨okM_74, okC_74⟩, fun i hi => by
  have hi : i < 10 := hi
  exact okR_at okR_74_0 (by omega) (by omega)⟩
theorem okM_75 : okM 75 = true := by decide +kernel
theorem okC_75 : Cond.code (mnm 75) (mby 75) (mmaxL 75) (mrt 75) ∈ tb := tb_mem (tseg_in (j := 2) (List.mem_of_getElem? (i := 47) rfl)) rfl
theorem okR_75_0 : okR 75 0 17 = true := by decide +kernel
theorem okA_75 : okA 75 := ⟨Or.inr ⟨okM_75, okC_75⟩, fun i hi => by
  have hi : i < 17 := hi
  exact okR_at okR_75_0 (by omega) (by omega)⟩
theorem okM_76 : okM 76 = true := by decide +kernel
theorem okC_76 : Cond.code (mnm 76) (mby 76) (mmaxL 76) (mrt 76) ∈ tb := tb_mem (tseg_in (j := 3) (List.mem_of_getElem? (i := 226) rfl)) rfl
theorem okR_76_0 : okR 76 0 25 = true := by decide +kernel
theorem okA_76 : okA 76 := ⟨Or.inr ⟨okM_76, okC_76⟩, fun i hi => by
  have hi : i < 25 := hi
  exact okR_at okR_76_0 (by omega) (by omega)⟩
theorem okM_77 : okM 77 = true := by decide +kernel
theorem okC_77 : Cond.code (mnm 77) (mby 77) (mmaxL 77) (mrt 77) ∈ tb := tb_mem (tseg_in (j := 1) (List.mem_of_getElem? (i := 169) rfl)) rfl
theorem okR_77_0 : okR 77 0 17 = true := by decide +kernel
theorem okA_77 : okA 77 := ⟨Or.inr ⟨okM_77, okC_77⟩, fun i hi => by
  have hi : i < 17 := hi
  exact okR_at okR_77_0 (by omega) (by omega)⟩
theorem okM_78 : okM 78 = true := by decide +kernel
theorem okC_78 : Cond.code (mnm 78) (mby 78) (mmaxL 78) (mrt 78) ∈ tb := tb_mem (tseg_in (j := 3) (List.mem_of_getElem? (i := 78) rfl)) rfl
theorem okR_78_0 : okR 78 0 6 = true := by decide +kernel
theorem okA_78 : okA 78 := ⟨Or.inr ⟨okM_78, okC_78⟩, fun i hi => by
  have hi : i < 6 := hi
  exact okR_at okR_78_0 (by omega) (by omega)⟩
theorem okM_79 : okM 79 = true := by decide +kernel
theorem okC_79 : Cond.code (mnm 79) (mby 79) (mmaxL 79) (mrt 79) ∈ tb := tb_mem (tseg_in (j := 3) (List.mem_of_getElem? (i := 83) rfl)) rfl
theorem okR_79_0 : okR 79 0 11 = true := by decide +kernel
theorem okA_79 : okA 79 := ⟨Or.inr ⟨okM_79, okC_79⟩, fun i hi => by
  have hi : i < 11 := hi
  exact okR_at okR_79_0 (by omega) (by omega)⟩
theorem okM_80 : okM 80 = true := by decide +kernel
theorem okC_80 : Cond.code (mnm 80) (mby 80) (mmaxL 80) (mrt 80) ∈ tb := tb_mem (tseg_in (j := 3) (List.mem_of_getElem? (i := 74) rfl)) rfl
theorem okR_80_0 : okR 80 0 6 = true := by decide +kernel
theorem okA_80 : okA 80 := ⟨Or.inr ⟨okM_80, okC_80⟩, fun i hi => by
  have hi : i < 6 := hi
  exact okR_at okR_80_0 (by omega) (by omega)⟩
theorem okM_81 : okM 81 = true := by decide +kernel
theorem okC_81 : Cond.code (mnm 81) (mby 81) (mmaxL 81) (mrt 81) ∈ tb := tb_mem (tseg_in (j := 3) (List.mem_of_getElem? (i := 97) rfl)) rfl
theorem okR_81_0 : okR 81 0 19 = true := by decide +kernel
theorem okA_81 : okA 81 := ⟨Or.inr ⟨okM_81, okC_81⟩, fun i hi => by
  have hi : i < 19 := hi
  exact okR_at okR_81_0 (by omega) (by omega)⟩
theorem okM_82 : okM 82 = true := by decide +kernel
theorem okC_82 : Cond.code (mnm 82) (mby 82) (mmaxL 82) (mrt 82) ∈ tb := tb_mem (tseg_in (j := 3) (List.mem_of_getElem? (i := 107) rfl)) rfl
theorem okR_82_0 : okR 82 0 22 = true := by decide +kernel
theorem okA_82 : okA 82 := ⟨Or.inr ⟨okM_82, okC_82⟩, fun i hi => by
  have hi : i < 22 := hi
  exact okR_at okR_82_0 (by omega) (by omega)⟩
theorem okM_83 : okM 83 = true := by decide +kernel
theorem okC_83 : Cond.code (mnm 83) (mby 83) (mmaxL 83) (mrt 83) ∈ tb := tb_mem (tseg_in (j := 3) (List.mem_of_getElem? (i := 116) rfl)) rfl
theorem okR_83_0 : okR 83 0 31 = true := by decide +kernel
theorem okA_83 : okA 83 := ⟨Or.inr ⟨okM_83, okC_83⟩, fun i hi => by
  have hi : i < 31 := hi
  exact okR_at okR_83_0 (by omega) (by omega)⟩
theorem okM_84 : okM 84 = true := by decide +kernel
theorem okC_84 : Cond.code (mnm 84) (mby 84) (mmaxL 84) (mrt 84) ∈ tb := tb_mem (tseg_in (j := 3) (List.mem_of_getElem? (i := 128) rfl)) rfl
theorem okR_84_0 : okR 84 0 32 = true := by decide +kernel
theorem okA_84 : okA 84 := ⟨Or.inr ⟨okM_84, okC_84⟩, fun i hi => by
  have hi : i < 32 := hi
  exact okR_at okR_84_0 (by omega) (by omega)⟩
theorem okM_85 : okM 85 = true := by decide +kernel
theorem okC_85 : Cond.code (mnm 85) (mby 85) (mmaxL 85) (mrt 85) ∈ tb := tb_mem (tseg_in (j := 3) (List.mem_of_getElem? (i := 138) rfl)) rfl
theorem okR_85_0 : okR 85 0 24 = true := by decide +kernel
theorem okA_85 : okA 85 := ⟨Or.inr ⟨okM_85, okC_85⟩, fun i hi => by
  have hi : i < 24 := hi
  exact okR_at okR_85_0 (by omega) (by omega)⟩
theorem okM_86 : okM 86 = true := by decide +kernel
theorem okC_86 : Cond.code (mnm 86) (mby 86) (mmaxL 86) (mrt 86) ∈ tb := tb_mem (tseg_in (j := 3) (List.mem_of_getElem? (i := 142) rfl)) rfl
theorem okR_86_0 : okR 86 0 20 = true := by decide +kernel
theorem okA_86 : okA 86 := ⟨Or.inr ⟨okM_86, okC_86⟩, fun i hi => by
  have hi : i < 20 := hi
  exact okR_at okR_86_0 (by omega) (by omega)⟩
theorem okM_87 : okM 87 = true := by decide +kernel
theorem okC_87 : Cond.code (mnm 87) (mby 87) (mmaxL 87) (mrt 87) ∈ tb := tb_mem (tseg_in (j := 3) (List.mem_of_getElem? (i := 149) rfl)) rfl
theorem okR_87_0 : okR 87 0 27 = true := by decide +kernel
theorem okA_87 : okA 87 := ⟨Or.inr ⟨okM_87, okC_87⟩, fun i hi => by
  have hi : i < 27 := hi
  exact okR_at okR_87_0 (by omega) (by omega)⟩
theorem okM_88 : okM 88 = true := by decide +kernel
theorem okC_88 : Cond.code (mnm 88) (mby 88) (mmaxL 88) (mrt 88) ∈ tb := tb_mem (tseg_in (j := 3) (List.mem_of_getElem? (i := 161) rfl)) rfl
theorem okR_88_0 : okR 88 0 33 = true := by decide +kernel
theorem okA_88 : okA 88 := ⟨Or.inr ⟨okM_88, okC_88⟩, fun i hi => by
  have hi : i < 33 := hi
  exact okR_at okR_88_0 (by omega) (by omega)⟩
theorem okM_89 : okM 89 = true := by decide +kernel
theorem okC_89 : Cond.code (mnm 89) (mby 89) (mmaxL 89) (mrt 89) ∈ tb := tb_mem (tseg_in (j := 3) (List.mem_of_getElem? (i := 165) rfl)) rfl
theorem okR_89_0 : okR 89 0 29 = true := by decide +kernel
theorem okA_89 : okA 89 := ⟨Or.inr ⟨okM_89, okC_89⟩, fun i hi => by
  have hi : i < 29 := hi
  exact okR_at okR_89_0 (by omega) (by omega)⟩
theorem okM_90 : okM 90 = true := by decide +kernel
theorem okC_90 : Cond.code (mnm 90) (mby 90) (mmaxL 90) (mrt 90) ∈ tb := tb_mem (tseg_in (j := 3) (List.mem_of_getElem? (i := 174) rfl)) rfl
theorem okR_90_0 : okR 90 0 35 = true := by decide +kernel
theorem okA_90 : okA 90 := ⟨Or.inr ⟨okM_90, okC_90⟩, fun i hi => by
  have hi : i < 35 := hi
  exact okR_at okR_90_0 (by omega) (by omega)⟩
theorem okM_91 : okM 91 = true := by decide +kernel
theorem okC_91 : Cond.code (mnm 91) (mby 91) (mmaxL 91) (mrt 91) ∈ tb := tb_mem (tseg_in (j := 3) (List.mem_of_getElem? (i := 178) rfl)) rfl
theorem okR_91_0 : okR 91 0 12 = true := by decide +kernel
theorem okA_91 : okA 91 := ⟨Or.inr ⟨okM_91, okC_91⟩, fun i hi => by
  have hi : i < 12 := hi
  exact okR_at okR_91_0 (by omega) (by omega)⟩
theorem okM_92 : okM 92 = true := by decide +kernel
theorem okC_92 : Cond.code (mnm 92) (mby 92) (mmaxL 92) (mrt 92) ∈ tb := tb_mem (tseg_in (j := 3) (List.mem_of_getElem? (i := 234) rfl)) rfl
theorem okR_92_0 : okR 92 0 27 = true := by decide +kernel
theorem okA_92 : okA 92 := ⟨Or.inr ⟨okM_92, okC_92⟩, fun i hi => by
  have hi : i < 27 := hi
  exact okR_at okR_92_0 (by omega) (by omega)⟩
theorem okM_93 : okM 93 = true := by decide +kernel
theorem okC_93 : Cond.code (mnm 93) (mby 93) (mmaxL 93) (mrt 93) ∈ tb := tb_mem (tseg_in (j := 3) (List.mem_of_getElem? (i := 230) rfl)) rfl
theorem okR_93_0 : okR 93 0 30 = true := by decide +kernel
theorem okA_93 : okA 93 := ⟨Or.inr ⟨okM_93, okC_93⟩, fun i hi => by
  have hi : i < 30 := hi
  exact okR_at okR_93_0 (by omega) (by omega)⟩
theorem okM_94 : okM 94 = true := by decide +kernel
theorem okC_94 : Cond.code (mnm 94) (mby 94) (mmaxL 94) (mrt 94) ∈ tb := tb_mem (tseg_in (j := 3) (List.mem_of_getElem? (i := 238) rfl)) rfl
theorem okR_94_0 : okR 94 0 30 = true := by decide +kernel
theorem okA_94 : okA 94 := ⟨Or.inr ⟨okM_94, okC_94⟩, fun i hi => by
  have hi : i < 30 := hi
  exact okR_at okR_94_0 (by omega) (by omega)⟩
theorem okM_95 : okM 95 = true := by decide +kernel
theorem okC_95 : Cond.code (mnm 95) (mby 95) (mmaxL 95) (mrt 95) ∈ tb := tb_mem (tseg_in (j := 4) (List.mem_of_getElem? (i := 2) rfl)) rfl
theorem okR_95_0 : okR 95 0 32 = true := by decide +kernel
theorem okA_95 : okA 95 := ⟨Or.inr ⟨okM_95, okC_95⟩, fun i hi => by
  have hi : i < 32 := hi
  exact okR_at okR_95_0 (by omega) (by omega)⟩
theorem okM_96 : okM 96 = true := by decide +kernel
theorem okC_96 : Cond.code (mnm 96) (mby 96) (mmaxL 96) (mrt 96) ∈ tb := tb_mem (tseg_in (j := 4) (List.mem_of_getElem? (i := 10) rfl)) rfl
theorem okR_96_0 : okR 96 0 30 = true := by decide +kernel
theorem okA_96 : okA 96 := ⟨Or.inr ⟨okM_96, okC_96⟩, fun i hi => by
  have hi : i < 30 := hi
  exact okR_at okR_96_0 (by omega) (by omega)⟩
theorem okM_97 : okM 97 = true := by decide +kernel
theorem okC_97 : Cond.code (mnm 97) (mby 97) (mmaxL 97) (mrt 97) ∈ tb := tb_mem (tseg_in (j := 4) (List.mem_of_getElem? (i := 18) rfl)) rfl
theorem okR_97_0 : okR 97 0 26 = true := by decide +kernel
theorem okA_97 : okA 97 := ⟨Or.inr ⟨okM_97, okC_97⟩, fun i hi => by
  have hi : i < 26 := hi
  exact okR_at okR_97_0 (by omega) (by omega)⟩
theorem okM_98 : okM 98 = true := by decide +kernel
theorem okC_98 : Cond.code (mnm 98) (mby 98) (mmaxL 98) (mrt 98) ∈ tb := tb_mem (tseg_in (j := 4) (List.mem_of_getElem? (i := 31) rfl)) rfl
theorem okR_98_0 : okR 98 0 25 = true := by decide +kernel
theorem okA_98 : okA 98 := ⟨Or.inr ⟨okM_98, okC_98⟩, fun i hi => by
  have hi : i < 25 := hi
  exact okR_at okR_98_0 (by omega) (by omega)⟩
theorem okM_99 : okM 99 = true := by decide +kernel
theorem okC_99 : Cond.code (mnm 99) (mby 99) (mmaxL 99) (mrt 99) ∈ tb := tb_mem (tseg_in (j := 4) (List.mem_of_getElem? (i := 45) rfl)) rfl
theorem okR_99_0 : okR 99 0 6 = true := by decide +kernel
theorem okA_99 : okA 99 := ⟨Or.inr ⟨okM_99, okC_99⟩, fun i hi => by
  have hi : i < 6 := hi
  exact okR_at okR_99_0 (by omega) (by omega)⟩
theorem okM_100 : okM 100 = true := by decide +kernel
theorem okC_100 : Cond.code (mnm 100) (mby 100) (mmaxL 100) (mrt 100) ∈ tb := tb_mem (tseg_in (j := 4) (List.mem_of_getElem? (i := 27) rfl)) rfl
theorem okR_100_0 : okR 100 0 46 = true := by decide +kernel
theorem okA_100 : okA 100 := ⟨Or.inr ⟨okM_100, okC_100⟩, fun i hi => by
  have hi : i < 46 := hi
  exact okR_at okR_100_0 (by omega) (by omega)⟩
theorem okM_101 : okM 101 = true := by decide +kernel
theorem okC_101 : Cond.code (mnm 101) (mby 101) (mmaxL 101) (mrt 101) ∈ tb := tb_mem (tseg_in (j := 4) (List.mem_of_getElem? (i := 34) rfl)) rfl
theorem okR_101_0 : okR 101 0 18 = true := by decide +kernel
theorem okA_101 : okA 101 := ⟨Or.inr ⟨okM_101, okC_101⟩, fun i hi => by
  have hi : i < 18 := hi
  exact okR_at okR_101_0 (by omega) (by omega)⟩
theorem okM_102 : okM 102 = true := by decide +kernel
theorem okC_102 : Cond.code (mnm 102) (mby 102) (mmaxL 102) (mrt 102) ∈ tb := tb_mem (tseg_in (j := 4) (List.mem_of_getElem? (i := 41) rfl)) rfl
theorem okR_102_0 : okR 102 0 15 = true := by decide +kernel
theorem okA_102 : okA 102 := ⟨Or.inr ⟨okM_102, okC_102⟩, fun i hi => by
  have hi : i < 15 := hi
  exact okR_at okR_102_0 (by omega) (by omega)⟩
theorem okM_103 : okM 103 = true := by decide +kernel
theorem okC_103 : Cond.code (mnm 103) (mby 103) (mmaxL 103) (mrt 103) ∈ tb := tb_mem (tseg_in (j := 4) (List.mem_of_getElem? (i := 37) rfl)) rfl
theorem okR_103_0 : okR 103 0 16 = true := by decide +kernel
theorem okA_103 : okA 103 := ⟨Or.inr ⟨okM_103, okC_103⟩, fun i hi => by
  have hi : i < 16 := hi
  exact okR_at okR_103_0 (by omega) (by omega)⟩
theorem okM_104 : okM 104 = true := by decide +kernel
theorem okC_104 : Cond.code (mnm 104) (mby 104) (mmaxL 104) (mrt 104) ∈ tb := tb_mem (tseg_in (j := 4) (List.mem_of_getElem? (i := 57) rfl)) rfl
theorem okR_104_0 : okR 104 0 65 = true := by decide +kernel
theorem okA_104 : okA 104 := ⟨Or.inr ⟨okM_104, okC_104⟩, fun i hi => by
  have hi : i < 65 := hi
  exact okR_at okR_104_0 (by omega) (by omega)⟩
theorem okM_105 : okM 105 = true := by decide +kernel
theorem okC_105 : Cond.code (mnm 105) (mby 105) (mmaxL 105) (mrt 105) ∈ tb := tb_mem (tseg_in (j := 1) (List.mem_of_getElem? (i := 16) rfl)) rfl
theorem okR_105_0 : okR 105 0 51 = true := by decide +kernel
theorem okA_105 : okA 105 := ⟨Or.inr ⟨okM_105, okC_105⟩, fun i hi => by
  have hi : i < 51 := hi
  exact okR_at okR_105_0 (by omega) (by omega)⟩
theorem okM_106 : okM 106 = true := by decide +kernel
theorem okC_106 : Cond.code (mnm 106) (mby 106) (mmaxL 106) (mrt 106) ∈ tb := tb_mem (tseg_in (j := 1) (List.mem_of_getElem? (i := 230) rfl)) rfl
theorem okR_106_0 : okR 106 0 31 = true := by decide +kernel
theorem okA_106 : okA 106 := ⟨Or.inr ⟨okM_106, okC_106⟩, fun i hi => by
  have hi : i < 31 := hi
  exact okR_at okR_106_0 (by omega) (by omega)⟩
theorem okM_107 : okM 107 = true := by decide +kernel
theorem okC_107 : Cond.code (mnm 107) (mby 107) (mmaxL 107) (mrt 107) ∈ tb := tb_mem (tseg_in (j := 2) (List.mem_of_getElem? (i := 16) rfl)) rfl
theorem okR_107_0 : okR 107 0 29 = true := by decide +kernel
theorem okA_107 : okA 107 := ⟨Or.inr ⟨okM_107, okC_107⟩, fun i hi => by
  have hi : i < 29 := hi
  exact okR_at okR_107_0 (by omega) (by omega)⟩
theorem okM_108 : okM 108 = true := by decide +kernel
theorem okC_108 : Cond.code (mnm 108) (mby 108) (mmaxL 108) (mrt 108) ∈ tb := tb_mem (tseg_in (j := 2) (List.mem_of_getElem? (i := 39) rfl)) rfl
theorem okR_108_0 : okR 108 0 39 = true := by decide +kernel
theorem okA_108 : okA 108 := ⟨Or.inr ⟨okM_108, okC_108⟩, fun i hi => by
  have hi : i < 39 := hi
  exact okR_at okR_108_0 (by omega) (by omega)⟩
theorem okM_109 : okM 109 = true := by decide +kernel
theorem okC_109 : Cond.code (mnm 109) (mby 109) (mmaxL 109) (mrt 109) ∈ tb := tb_mem (tseg_in (j := 2) (List.mem_of_getElem? (i := 54) rfl)) rfl
theorem okR_109_0 : okR 109 0 23 = true := by decide +kernel
theorem okA_109 : okA 109 := ⟨Or.inr ⟨okM_109, okC_109⟩, fun i hi => by
  have hi : i < 23 := hi
  exact okR_at okR_109_0 (by omega) (by omega)⟩
theorem okM_110 : okM 110 = true := by decide +kernel
theorem okC_110 : Cond.code (mnm 110) (mby 110) (mmaxL 110) (mrt 110) ∈ tb := tb_mem (tseg_in (j := 2) (List.mem_of_getElem? (i := 63) rfl)) rfl
theorem okR_110_0 : okR 110 0 18 = true := by decide +kernel
theorem okA_110 : okA 110 := ⟨Or.inr ⟨okM_110, okC_110⟩, fun i hi => by
  have hi : i < 18 := hi
  exact okR_at okR_110_0 (by omega) (by omega)⟩
theorem okM_111 : okM 111 = true := by decide +kernel
theorem okC_111 : Cond.code (mnm 111) (mby 111) (mmaxL 111) (mrt 111) ∈ tb := tb_mem (tseg_in (j := 2) (List.mem_of_getElem? (i := 77) rfl)) rfl
theorem okR_111_0 : okR 111 0 24 = true := by decide +kernel
theorem okA_111 : okA 111 := ⟨Or.inr ⟨okM_111, okC_111⟩, fun i hi => by
  have hi : i < 24 := hi
  exact okR_at okR_111_0 (by omega) (by omega)⟩
theorem okM_112 : okM 112 = true := by decide +kernel
theorem okC_112 : Cond.code (mnm 112) (mby 112) (mmaxL 112) (mrt 112) ∈ tb := tb_mem (tseg_in (j := 2) (List.mem_of_getElem? (i := 165) rfl)) rfl
theorem okR_112_0 : okR 112 0 4 = true := by decide +kernel
theorem okA_112 : okA 112 := ⟨Or.inr ⟨okM_112, okC_112⟩, fun i hi => by
  have hi : i < 4 := hi
  exact okR_at okR_112_0 (by omega) (by omega)⟩
theorem okM_113 : okM 113 = true := by decide +kernel
theorem okC_113 : Cond.code (mnm 113) (mby 113) (mmaxL 113) (mrt 113) ∈ tb := tb_mem (tseg_in (j := 2) (List.mem_of_getElem? (i := 169) rfl)) rfl
theorem okR_113_0 : okR 113 0 15 = true := by decide +kernel
theorem okA_113 : okA 113 := ⟨Or.inr ⟨okM_113, okC_113⟩, fun i hi => by
  have hi : i < 15 := hi
  exact okR_at okR_113_0 (by omega) (by omega)⟩
theorem okM_114 : okM 114 = true := by decide +kernel
theorem okC_114 : Cond.code (mnm 114) (mby 114) (mmaxL 114) (mrt 114) ∈ tb := tb_mem (tseg_in (j := 2) (List.mem_of_getElem? (i := 182) rfl)) rfl
theorem okR_114_0 : okR 114 0 41 = true := by decide +kernel
theorem okA_114 : okA 114 := ⟨Or.inr ⟨okM_114, okC_114⟩, fun i hi => by
  have hi : i < 41 := hi
  exact okR_at okR_114_0 (by omega) (by omega)⟩
theorem okM_115 : okM 115 = true := by decide +kernel
theorem okC_115 : Cond.code (mnm 115) (mby 115) (mmaxL 115) (mrt 115) ∈ tb := tb_mem (tseg_in (j := 3) (List.mem_of_getElem? (i := 5) rfl)) rfl
theorem okR_115_0 : okR 115 0 28 = true := by decide +kernel
theorem okA_115 : okA 115 := ⟨Or.inr ⟨okM_115, okC_115⟩, fun i hi => by
  have hi : i < 28 := hi
  exact okR_at okR_115_0 (by omega) (by omega)⟩
theorem okM_116 : okM 116 = true := by decide +kernel
theorem okC_116 : Cond.code (mnm 116) (mby 116) (mmaxL 116) (mrt 116) ∈ tb := tb_mem (tseg_in (j := 3) (List.mem_of_getElem? (i := 18) rfl)) rfl
theorem okR_116_0 : okR 116 0 31 = true := by decide +kernel
theorem okA_116 : okA 116 := ⟨Or.inr ⟨okM_116, okC_116⟩, fun i hi => by
  have hi : i < 31 := hi
  exact okR_at okR_116_0 (by omega) (by omega)⟩
theorem okM_117 : okM 117 = true := by decide +kernel
theorem okC_117 : Cond.code (mnm 117) (mby 117) (mmaxL 117) (mrt 117) ∈ tb := tb_mem (tseg_in (j := 3) (List.mem_of_getElem? (i := 26) rfl)) rfl
theorem okR_117_0 : okR 117 0 52 = true := by decide +kernel
theorem okA_117 : okA 117 := ⟨Or.inr ⟨okM_117, okC_117⟩, fun i hi => by
  have hi : i < 52 := hi
  exact okR_at okR_117_0 (by omega) (by omega)⟩
theorem okM_118 : okM 118 = true := by decide +kernel
theorem okC_118 : Cond.code (mnm 118) (mby 118) (mmaxL 118) (mrt 118) ∈ tb := tb_mem (tseg_in (j := 3) (List.mem_of_getElem? (i := 37) rfl)) rfl
theorem okR_118_0 : okR 118 0 38 = true := by decide +kernel
theorem okA_118 : okA 118 := ⟨Or.inr ⟨okM_118, okC_118⟩, fun i hi => by
  have hi : i < 38 := hi
  exact okR_at okR_118_0 (by omega) (by omega)⟩
theorem okM_119 : okM 119 = true := by decide +kernel
theorem okC_119 : Cond.code (mnm 119) (mby 119) (mmaxL 119) (mrt 119) ∈ tb := tb_mem (tseg_in (j := 3) (List.mem_of_getElem? (i := 41) rfl)) rfl
theorem okR_119_0 : okR 119 0 39 = true := by decide +kernel
theorem okA_119 : okA 119 := ⟨Or.inr ⟨okM_119, okC_119⟩, fun i hi => by
  have hi : i < 39 := hi
  exact okR_at okR_119_0 (by omega) (by omega)⟩
theorem okM_120 : okM 120 = true := by decide +kernel
theorem okC_120 : Cond.code (mnm 120) (mby 120) (mmaxL 120) (mrt 120) ∈ tb := tb_mem (tseg_in (j := 3) (List.mem_of_getElem? (i := 50) rfl)) rfl
theorem okR_120_0 : okR 120 0 29 = true := by decide +kernel
theorem okA_120 : okA 120 := ⟨Or.inr ⟨okM_120, okC_120⟩, fun i hi => by
  have hi : i < 29 := hi
  exact okR_at okR_120_0 (by omega) (by omega)⟩
theorem okM_121 : okM 121 = true := by decide +kernel
theorem okC_121 : Cond.code (mnm 121) (mby 121) (mmaxL 121) (mrt 121) ∈ tb := tb_mem (tseg_in (j := 3) (List.mem_of_getElem? (i := 54) rfl)) rfl
theorem okR_121_0 : okR 121 0 27 = true := by decide +kernel
theorem okA_121 : okA 121 := ⟨Or.inr ⟨okM_121, okC_121⟩, fun i hi => by
  have hi : i < 27 := hi
  exact okR_at okR_121_0 (by omega) (by omega)⟩
theorem okM_122 : okM 122 = true := by decide +kernel
theorem okC_122 : Cond.code (mnm 122) (mby 122) (mmaxL 122) (mrt 122) ∈ tb := tb_mem (tseg_in (j := 3) (List.mem_of_getElem? (i := 70) rfl)) rfl
theorem okR_122_0 : okR 122 0 37 = true := by decide +kernel
theorem okA_122 : okA 122 := ⟨Or.inr ⟨okM_122, okC_122⟩, fun i hi => by
  have hi : i < 37 := hi
  exact okR_at okR_122_0 (by omega) (by omega)⟩
theorem okM_123 : okM 123 = true := by decide +kernel
theorem okC_123 : Cond.code (mnm 123) (mby 123) (mmaxL 123) (mrt 123) ∈ tb := tb_mem (tseg_in (j := 3) (List.mem_of_getElem? (i := 88) rfl)) rfl
theorem okR_123_0 : okR 123 0 23 = true := by decide +kernel
theorem okA_123 : okA 123 := ⟨Or.inr ⟨okM_123, okC_123⟩, fun i hi => by
  have hi : i < 23 := hi
  exact okR_at okR_123_0 (by omega) (by omega)⟩
theorem okM_124 : okM 124 = true := by decide +kernel
theorem okC_124 : Cond.code (mnm 124) (mby 124) (mmaxL 124) (mrt 124) ∈ tb := tb_mem (tseg_in (j := 3) (List.mem_of_getElem? (i := 92) rfl)) rfl
theorem okR_124_0 : okR 124 0 15 = true := by decide +kernel
theorem okA_124 : okA 124 := ⟨Or.inr ⟨okM_124, okC_124⟩, fun i hi => by
  have hi : i < 15 := hi
  exact okR_at okR_124_0 (by omega) (by omega)⟩
theorem okM_125 : okM 125 = true := by decide +kernel
theorem okC_125 : Cond.code (mnm 125) (mby 125) (mmaxL 125) (mrt 125) ∈ tb := tb_mem (tseg_in (j := 3) (List.mem_of_getElem? (i := 103) rfl)) rfl
theorem okR_125_0 : okR 125 0 18 = true := by decide +kernel
theorem okA_125 : okA 125 := ⟨Or.inr ⟨okM_125, okC_125⟩, fun i hi => by
  have hi : i < 18 := hi
  exact okR_at okR_125_0 (by omega) (by omega)⟩
theorem okM_126 : okM 126 = true := by decide +kernel
theorem okC_126 : Cond.code (mnm 126) (mby 126) (mmaxL 126) (mrt 126) ∈ tb := tb_mem (tseg_in (j := 3) (List.mem_of_getElem? (i := 112) rfl)) rfl
theorem okR_126_0 : okR 126 0 21 = true := by decide +kernel
theorem okA_126 : okA 126 := ⟨Or.inr ⟨okM_126, okC_126⟩, fun i hi => by
  have hi : i < 21 := hi
  exact okR_at okR_126_0 (by omega) (by omega)⟩
theorem okM_127 : okM 127 = true := by decide +kernel
theorem okC_127 : Cond.code (mnm 127) (mby 127) (mmaxL 127) (mrt 127) ∈ tb := tb_mem (tseg_in (j := 3) (List.mem_of_getElem? (i := 120) rfl)) rfl
theorem okR_127_0 : okR 127 0 22 = true := by decide +kernel
theorem okA_127 : okA 127 := ⟨Or.inr ⟨okM_127, okC_127⟩, fun i hi => by
  have hi : i < 22 := hi
  exact okR_at okR_127_0 (by omega) (by omega)⟩
theorem okM_128 : okM 128 = true := by decide +kernel
theorem okC_128 : Cond.code (mnm 128) (mby 128) (mmaxL 128) (mrt 128) ∈ tb := tb_mem (tseg_in (j := 3) (List.mem_of_getElem? (i := 124) rfl)) rfl
theorem okR_128_0 : okR 128 0 25 = true := by decide +kernel
theorem okA_128 : okA 128 := ⟨Or.inr ⟨okM_128, okC_128⟩, fun i hi => by
  have hi : i < 25 := hi
  exact okR_at okR_128_0 (by omega) (by omega)⟩
theorem okM_129 : okM 129 = true := by decide +kernel
theorem okC_129 : Cond.code (mnm 129) (mby 129) (mmaxL 129) (mrt 129) ∈ tb := tb_mem (tseg_in (j := 3) (List.mem_of_getElem? (i := 157) rfl)) rfl
theorem okR_129_0 : okR 129 0 33 = true := by decide +kernel
theorem okA_129 : okA 129 := ⟨Or.inr ⟨okM_129, okC_129⟩, fun i hi => by
  have hi : i < 33 := hi
  exact okR_at okR_129_0 (by omega) (by omega)⟩
theorem okM_130 : okM 130 = true := by decide +kernel
theorem okC_130 : Cond.code (mnm 130) (mby 130) (mmaxL 130) (mrt 130) ∈ tb := tb_mem (tseg_in (j := 3) (List.mem_of_getElem? (i := 170) rfl)) rfl
theorem okR_130_0 : okR 130 0 30 = true := by decide +kernel
theorem okA_130 : okA 130 := ⟨Or.inr ⟨okM_130, okC_130⟩, fun i hi => by
  have hi : i < 30 := hi
  exact okR_at okR_130_0 (by omega) (by omega)⟩
theorem okM_131 : okM 131 = true := by decide +kernel
theorem okC_131 : Cond.code (mnm 131) (mby 131) (mmaxL 131) (mrt 131) ∈ tb := tb_mem (tseg_in (j := 3) (List.mem_of_getElem? (i := 184) rfl)) rfl
theorem okR_131_0 : okR 131 0 25 = true := by decide +kernel
theorem okA_131 : okA 131 := ⟨Or.inr ⟨okM_131, okC_131⟩, fun i hi => by
  have hi : i < 25 := hi
  exact okR_at okR_131_0 (by omega) (by omega)⟩
theorem okM_132 : okM 132 = true := by decide +kernel
theorem okC_132 : Cond.code (mnm 132) (mby 132) (mmaxL 132) (mrt 132) ∈ tb := tb_mem (tseg_in (j := 3) (List.mem_of_getElem? (i := 198) rfl)) rfl
theorem okR_132_0 : okR 132 0 19 = true := by decide +kernel
theorem okA_132 : okA 132 := ⟨Or.inr ⟨okM_132, okC_132⟩, fun i hi => by
  have hi : i < 19 := hi
  exact okR_at okR_132_0 (by omega) (by omega)⟩
theorem okM_133 : okM 133 = true := by decide +kernel
theorem okC_133 : Cond.code (mnm 133) (mby 133) (mmaxL 133) (mrt 133) ∈ tb := tb_mem (tseg_in (j := 3) (List.mem_of_getElem? (i := 206) rfl)) rfl
theorem okR_133_0 : okR 133 0 10 = true := by decide +kernel
theorem okA_133 : okA 133 := ⟨Or.inr ⟨okM_133, okC_133⟩, fun i hi => by
  have hi : i < 10 := hi
  exact okR_at okR_133_0 (by omega) (by omega)⟩
theorem okM_134 : okM 134 = true := by decide +kernel
theorem okC_134 : Cond.code (mnm 134) (mby 134) (mmaxL 134) (mrt 134) ∈ tb := tb_mem (tseg_in (j := 3) (List.mem_of_getElem? (i := 214) rfl)) rfl
theorem okR_134_0 : okR 134 0 38 = true := by decide +kernel
theorem okA_134 : okA 134 := ⟨Or.inr ⟨okM_134, okC_134⟩, fun i hi => by
  have hi : i < 38 := hi
  exact okR_at okR_134_0 (by omega) (by omega)⟩
theorem okM_135 : okM 135 = true := by decide +kernel
theorem okC_135 : Cond.code (mnm 135) (mby 135) (mmaxL 135) (mrt 135) ∈ tb := tb_mem (tseg_in (j := 3) (List.mem_of_getElem? (i := 222) rfl)) rfl
theorem okR_135_0 : okR 135 0 79 = true := by decide +kernel
theorem okA_135 : okA 135 := ⟨Or.inr ⟨okM_135, okC_135⟩, fun i hi => by
  have hi : i < 79 := hi
  exact okR_at okR_135_0 (by omega) (by omega)⟩
theorem okM_136 : okM 136 = true := by decide +kernel
theorem okC_136 : Cond.code (mnm 136) (mby 136) (mmaxL 136) (mrt 136) ∈ tb := tb_mem (tseg_in (j := 4) (List.mem_of_getElem? (i := 6) rfl)) rfl
theorem okR_136_0 : okR 136 0 55 = true := by decide +kernel
theorem okA_136 : okA 136 := ⟨Or.inr ⟨okM_136, okC_136⟩, fun i hi => by
  have hi : i < 55 := hi
  exact okR_at okR_136_0 (by omega) (by omega)⟩
theorem okM_137 : okM 137 = true := by decide +kernel
theorem okC_137 : Cond.code (mnm 137) (mby 137) (mmaxL 137) (mrt 137) ∈ tb := tb_mem (tseg_in (j := 4) (List.mem_of_getElem? (i := 14) rfl)) rfl
theorem okR_137_0 : okR 137 0 47 = true := by decide +kernel
theorem okA_137 : okA 137 := ⟨Or.inr ⟨okM_137, okC_137⟩, fun i hi => by
  have hi : i < 47 := hi
  exact okR_at okR_137_0 (by omega) (by omega)⟩
theorem okM_138 : okM 138 = true := by decide +kernel
theorem okC_138 : Cond.code (mnm 138) (mby 138) (mmaxL 138) (mrt 138) ∈ tb := tb_mem (tseg_in (j := 4) (List.mem_of_getElem? (i := 22) rfl)) rfl
theorem okR_138_0 : okR 138 0 61 = true := by decide +kernel
theorem okA_138 : okA 138 := ⟨Or.inr ⟨okM_138, okC_138⟩, fun i hi => by
  have hi : i < 61 := hi
  exact okR_at okR_138_0 (by omega) (by omega)⟩
theorem okM_139 : okM 139 = true := by decide +kernel
theorem okC_139 : Cond.code (mnm 139) (mby 139) (mmaxL 139) (mrt 139) ∈ tb := tb_mem (tseg_in (j := 4) (List.mem_of_getElem? (i := 52) rfl)) rfl
theorem okR_139_0 : okR 139 0 40 = true := by decide +kernel
theorem okA_139 : okA 139 := ⟨Or.inr ⟨okM_139, okC_139⟩, fun i hi => by
  have hi : i < 40 := hi
  exact okR_at okR_139_0 (by omega) (by omega)⟩
theorem okM_140 : okM 140 = true := by decide +kernel
theorem okC_140 : Cond.code (mnm 140) (mby 140) (mmaxL 140) (mrt 140) ∈ tb := tb_mem (tseg_in (j := 4) (List.mem_of_getElem? (i := 65) rfl)) rfl
theorem okR_140_0 : okR 140 0 22 = true := by decide +kernel
theorem okA_140 : okA 140 := ⟨Or.inr ⟨okM_140, okC_140⟩, fun i hi => by
  have hi : i < 22 := hi
  exact okR_at okR_140_0 (by omega) (by omega)⟩
theorem okM_141 : okM 141 = true := by decide +kernel
theorem okC_141 : Cond.code (mnm 141) (mby 141) (mmaxL 141) (mrt 141) ∈ tb := tb_mem (tseg_in (j := 4) (List.mem_of_getElem? (i := 69) rfl)) rfl
theorem okR_141_0 : okR 141 0 27 = true := by decide +kernel
theorem okA_141 : okA 141 := ⟨Or.inr ⟨okM_141, okC_141⟩, fun i hi => by
  have hi : i < 27 := hi
  exact okR_at okR_141_0 (by omega) (by omega)⟩
theorem okM_142 : okM 142 = true := by decide +kernel
theorem okC_142 : Cond.code (mnm 142) (mby 142) (mmaxL 142) (mrt 142) ∈ tb := tb_mem (tseg_in (j := 4) (List.mem_of_getElem? (i := 73) rfl)) rfl
theorem okR_142_0 : okR 142 0 13 = true := by decide +kernel
theorem okA_142 : okA 142 := ⟨Or.inr ⟨okM_142, okC_142⟩, fun i hi => by
  have hi : i < 13 := hi
  exact okR_at okR_142_0 (by omega) (by omega)⟩
theorem okM_143 : okM 143 = true := by decide +kernel
theorem okC_143 : Cond.code (mnm 143) (mby 143) (mmaxL 143) (mrt 143) ∈ tb := tb_mem (tseg_in (j := 4) (List.mem_of_getElem? (i := 77) rfl)) rfl
theorem okR_143_0 : okR 143 0 28 = true := by decide +kernel
theorem okA_143 : okA 143 := ⟨Or.inr ⟨okM_143, okC_143⟩, fun i hi => by
  have hi : i < 28 := hi
  exact okR_at okR_143_0 (by omega) (by omega)⟩
theorem okM_144 : okM 144 = true := by decide +kernel
theorem okC_144 : Cond.code (mnm 144) (mby 144) (mmaxL 144) (mrt 144) ∈ tb := tb_mem (tseg_in (j := 4) (List.mem_of_getElem? (i := 86) rfl)) rfl
theorem okR_144_0 : okR 144 0 20 = true := by decide +kernel
theorem okA_144 : okA 144 := ⟨Or.inr ⟨okM_144, okC_144⟩, fun i hi => by
  have hi : i < 20 := hi
  exact okR_at okR_144_0 (by omega) (by omega)⟩
theorem okM_145 : okM 145 = true := by decide +kernel
theorem okC_145 : Cond.code (mnm 145) (mby 145) (mmaxL 145) (mrt 145) ∈ tb := tb_mem (tseg_in (j := 4) (List.mem_of_getElem? (i := 114) rfl)) rfl
theorem okR_145_0 : okR 145 0 5 = true := by decide +kernel
theorem okA_145 : okA 145 := ⟨Or.inr ⟨okM_145, okC_145⟩, fun i hi => by
  have hi : i < 5 := hi
  exact okR_at okR_145_0 (by omega) (by omega)⟩
theorem okM_146 : okM 146 = true := by decide +kernel
theorem okC_146 : Cond.code (mnm 146) (mby 146) (mmaxL 146) (mrt 146) ∈ tb := tb_mem (tseg_in (j := 4) (List.mem_of_getElem? (i := 124) rfl)) rfl
theorem okR_146_0 : okR 146 0 36 = true := by decide +kernel
theorem okA_146 : okA 146 := ⟨Or.inr ⟨okM_146, okC_146⟩, fun i hi => by
  have hi : i < 36 := hi
  exact okR_at okR_146_0 (by omega) (by omega)⟩
theorem okM_147 : okM 147 = true := by decide +kernel
theorem okC_147 : Cond.code (mnm 147) (mby 147) (mmaxL 147) (mrt 147) ∈ tb := tb_mem (tseg_in (j := 4) (List.mem_of_getElem? (i := 136) rfl)) rfl
theorem okR_147_0 : okR 147 0 3 = true := by decide +kernel
theorem okA_147 : okA 147 := ⟨Or.inr ⟨okM_147, okC_147⟩, fun i hi => by
  have hi : i < 3 := hi
  exact okR_at okR_147_0 (by omega) (by omega)⟩
theorem okM_148 : okM 148 = true := by decide +kernel
theorem okC_148 : Cond.code (mnm 148) (mby 148) (mmaxL 148) (mrt 148) ∈ tb := tb_mem (tseg_in (j := 2) (List.mem_of_getElem? (i := 3) rfl)) rfl
theorem okR_148_0 : okR 148 0 7 = true := by decide +kernel
theorem okA_148 : okA 148 := ⟨Or.inr ⟨okM_148, okC_148⟩, fun i hi => by
  have hi : i < 7 := hi
  exact okR_at okR_148_0 (by omega) (by omega)⟩
theorem okM_149 : okM 149 = true := by decide +kernel
theorem okC_149 : Cond.code (mnm 149) (mby 149) (mmaxL 149) (mrt 149) ∈ tb := tb_mem (tseg_in (j := 2) (List.mem_of_getElem? (i := 12) rfl)) rfl
theorem okR_149_0 : okR 149 0 5 = true := by decide +kernel
theorem okA_149 : okA 149 := ⟨Or.inr ⟨okM_149, okC_149⟩, fun i hi => by
  have hi : i < 5 := hi
  exact okR_at okR_149_0 (by omega) (by omega)⟩
theorem okM_150 : okM 150 = true := by decide +kernel
theorem okC_150 : Cond.code (mnm 150) (mby 150) (mmaxL 150) (mrt 150) ∈ tb := tb_mem (tseg_in (j := 1) (List.mem_of_getElem? (i := 237) rfl)) rfl
theorem okR_150_0 : okR 150 0 10 = true := by decide +kernel
theorem okA_150 : okA 150 := ⟨Or.inr ⟨okM_150, okC_150⟩, fun i hi => by
  have hi : i < 10 := hi
  exact okR_at okR_150_0 (by omega) (by omega)⟩
theorem okM_151 : okM 151 = true := by decide +kernel
theorem okC_151 : Cond.code (mnm 151) (mby 151) (mmaxL 151) (mrt 151) ∈ tb := tb_mem (tseg_in (j := 3) (List.mem_of_getElem? (i := 145) rfl)) rfl
theorem okR_151_0 : okR 151 0 11 = true := by decide +kernel
theorem okA_151 : okA 151 := ⟨Or.inr ⟨okM_151, okC_151⟩, fun i hi => by
  have hi : i < 11 := hi
  exact okR_at okR_151_0 (by omega) (by omega)⟩
theorem okM_152 : okM 152 = true := by decide +kernel
theorem okC_152 : Cond.code (mnm 152) (mby 152) (mmaxL 152) (mrt 152) ∈ tb := tb_mem (tseg_in (j := 3) (List.mem_of_getElem? (i := 152) rfl)) rfl
theorem okR_152_0 : okR 152 0 10 = true := by decide +kernel
theorem okA_152 : okA 152 := ⟨Or.inr ⟨okM_152, okC_152⟩, fun i hi => by
  have hi : i < 10 := hi
  exact okR_at okR_152_0 (by omega) (by omega)⟩
theorem okM_153 : okM 153 = true := by decide +kernel
theorem okC_153 : Cond.code (mnm 153) (mby 153) (mmaxL 153) (mrt 153) ∈ tb := tb_mem (tseg_in (j := 4) (List.mem_of_getElem? (i := 80) rfl)) rfl
theorem okR_153_0 : okR 153 0 23 = true := by decide +kernel
theorem okA_153 : okA 153 := ⟨Or.inr ⟨okM_153, okC_153⟩, fun i hi => by
  have hi : i < 23 := hi
  exact okR_at okR_153_0 (by omega) (by omega)⟩
theorem okM_154 : okM 154 = true := by decide +kernel
theorem okC_154 : Cond.code (mnm 154) (mby 154) (mmaxL 154) (mrt 154) ∈ tb := tb_mem (tseg_in (j := 4) (List.mem_of_getElem? (i := 48) rfl)) rfl
theorem okR_154_0 : okR 154 0 25 = true := by decide +kernel
theorem okA_154 : okA 154 := ⟨Or.inr ⟨okM_154, okC_154⟩, fun i hi => by
  have hi : i < 25 := hi
  exact okR_at okR_154_0 (by omega) (by omega)⟩
theorem okM_155 : okM 155 = true := by decide +kernel
theorem okC_155 : Cond.code (mnm 155) (mby 155) (mmaxL 155) (mrt 155) ∈ tb := tb_mem (tseg_in (j := 4) (List.mem_of_getElem? (i := 141) rfl)) rfl
theorem okR_155_0 : okR 155 0 83 = true := by decide +kernel
theorem okA_155 : okA 155 := ⟨Or.inr ⟨okM_155, okC_155⟩, fun i hi => by
  have hi : i < 83 := hi
  exact okR_at okR_155_0 (by omega) (by omega)⟩
theorem okM_156 : okM 156 = true := by decide +kernel
theorem okC_156 : Cond.code (mnm 156) (mby 156) (mmaxL 156) (mrt 156) ∈ tb := tb_mem (tseg_in (j := 4) (List.mem_of_getElem? (i := 236) rfl)) rfl
theorem okR_156_0 : okR 156 0 12 = true := by decide +kernel
theorem okA_156 : okA 156 := ⟨Or.inr ⟨okM_156, okC_156⟩, fun i hi => by
  have hi : i < 12 := hi
  exact okR_at okR_156_0 (by omega) (by omega)⟩
theorem okM_157 : okM 157 = true := by decide +kernel
theorem okC_157 : Cond.code (mnm 157) (mby 157) (mmaxL 157) (mrt 157) ∈ tb := tb_mem (tseg_in (j := 5) (List.mem_of_getElem? (i := 2) rfl)) rfl
theorem okR_157_0 : okR 157 0 7 = true := by decide +kernel
theorem okA_157 : okA 157 := ⟨Or.inr ⟨okM_157, okC_157⟩, fun i hi => by
  have hi : i < 7 := hi
  exact okR_at okR_157_0 (by omega) (by omega)⟩
theorem okM_158 : okM 158 = true := by decide +kernel
theorem okC_158 : Cond.code (mnm 158) (mby 158) (mmaxL 158) (mrt 158) ∈ tb := tb_mem (tseg_in (j := 4) (List.mem_of_getElem? (i := 232) rfl)) rfl
theorem okR_158_0 : okR 158 0 6 = true := by decide +kernel
theorem okA_158 : okA 158 := ⟨Or.inr ⟨okM_158, okC_158⟩, fun i hi => by
  have hi : i < 6 := hi
  exact okR_at okR_158_0 (by omega) (by omega)⟩
theorem okM_159 : okM 159 = true := by decide +kernel
theorem okC_159 : Cond.code (mnm 159) (mby 159) (mmaxL 159) (mrt 159) ∈ tb := tb_mem (tseg_in (j := 4) (List.mem_of_getElem? (i := 229) rfl)) rfl
theorem okR_159_0 : okR 159 0 54 = true := by decide +kernel
theorem okA_159 : okA 159 := ⟨Or.inr ⟨okM_159, okC_159⟩, fun i hi => by
  have hi : i < 54 := hi
  exact okR_at okR_159_0 (by omega) (by omega)⟩
theorem okM_160 : okM 160 = true := by decide +kernel
theorem okC_160 : Cond.code (mnm 160) (mby 160) (mmaxL 160) (mrt 160) ∈ tb := tb_mem (tseg_in (j := 5) (List.mem_of_getElem? (i := 7) rfl)) rfl
theorem okR_160_0 : okR 160 0 71 = true := by decide +kernel
theorem okA_160 : okA 160 := ⟨Or.inr ⟨okM_160, okC_160⟩, fun i hi => by
  have hi : i < 71 := hi
  exact okR_at okR_160_0 (by omega) (by omega)⟩
theorem okM_161 : okM 161 = true := by decide +kernel
theorem okC_161 : Cond.code (mnm 161) (mby 161) (mmaxL 161) (mrt 161) ∈ tb := tb_mem (tseg_in (j := 5) (List.mem_of_getElem? (i := 11) rfl)) rfl
theorem okR_161_0 : okR 161 0 121 = true := by decide +kernel
theorem okA_161 : okA 161 := ⟨Or.inr ⟨okM_161, okC_161⟩, fun i hi => by
  have hi : i < 121 := hi
  exact okR_at okR_161_0 (by omega) (by omega)⟩
theorem okM_162 : okM 162 = true := by decide +kernel
theorem okC_162 : Cond.code (mnm 162) (mby 162) (mmaxL 162) (mrt 162) ∈ tb := tb_mem (tseg_in (j := 5) (List.mem_of_getElem? (i := 15) rfl)) rfl
theorem okR_162_0 : okR 162 0 30 = true := by decide +kernel
theorem okA_162 : okA 162 := ⟨Or.inr ⟨okM_162, okC_162⟩, fun i hi => by
  have hi : i < 30 := hi
  exact okR_at okR_162_0 (by omega) (by omega)⟩
theorem okM_163 : okM 163 = true := by decide +kernel
theorem okC_163 : Cond.code (mnm 163) (mby 163) (mmaxL 163) (mrt 163) ∈ tb := tb_mem (tseg_in (j := 5) (List.mem_of_getElem? (i := 19) rfl)) rfl
theorem okR_163_0 : okR 163 0 32 = true := by decide +kernel
theorem okA_163 : okA 163 := ⟨Or.inr ⟨okM_163, okC_163⟩, fun i hi => by
  have hi : i < 32 := hi
  exact okR_at okR_163_0 (by omega) (by omega)⟩
theorem okM_164 : okM 164 = true := by decide +kernel
theorem okC_164 : Cond.code (mnm 164) (mby 164) (mmaxL 164) (mrt 164) ∈ tb := tb_mem (tseg_in (j := 5) (List.mem_of_getElem? (i := 54) rfl)) rfl
theorem okR_164_0 : okR 164 0 11 = true := by decide +kernel
theorem okA_164 : okA 164 := ⟨Or.inr ⟨okM_164, okC_164⟩, fun i hi => by
  have hi : i < 11 := hi
  exact okR_at okR_164_0 (by omega) (by omega)⟩
theorem okM_165 : okM 165 = true := by decide +kernel
theorem okC_165 : Cond.code (mnm 165) (mby 165) (mmaxL 165) (mrt 165) ∈ tb := tb_mem (tseg_in (j := 5) (List.mem_of_getElem? (i := 37) rfl)) rfl
theorem okR_165_0 : okR 165 0 138 = true := by decide +kernel
theorem okA_165 : okA 165 := ⟨Or.inr ⟨okM_165, okC_165⟩, fun i hi => by
  have hi : i < 138 := hi
  exact okR_at okR_165_0 (by omega) (by omega)⟩
theorem okM_166 : okM 166 = true := by decide +kernel
theorem okC_166 : Cond.code (mnm 166) (mby 166) (mmaxL 166) (mrt 166) ∈ tb := tb_mem (tseg_in (j := 5) (List.mem_of_getElem? (i := 50) rfl)) rfl
theorem okR_166_0 : okR 166 0 11 = true := by decide +kernel
theorem okA_166 : okA 166 := ⟨Or.inr ⟨okM_166, okC_166⟩, fun i hi => by
  have hi : i < 11 := hi
  exact okR_at okR_166_0 (by omega) (by omega)⟩
theorem okM_167 : okM 167 = true := by decide +kernel
theorem okC_167 : Cond.code (mnm 167) (mby 167) (mmaxL 167) (mrt 167) ∈ tb := tb_mem (tseg_in (j := 5) (List.mem_of_getElem? (i := 46) rfl)) rfl
theorem okR_167_0 : okR 167 0 15 = true := by decide +kernel
theorem okA_167 : okA 167 := ⟨Or.inr ⟨okM_167, okC_167⟩, fun i hi => by
  have hi : i < 15 := hi
  exact okR_at okR_167_0 (by omega) (by omega)⟩
theorem okM_168 : okM 168 = true := by decide +kernel
theorem okC_168 : Cond.code (mnm 168) (mby 168) (mmaxL 168) (mrt 168) ∈ tb := tb_mem (tseg_in (j := 5) (List.mem_of_getElem? (i := 58) rfl)) rfl
theorem okR_168_0 : okR 168 0 38 = true := by decide +kernel
theorem okA_168 : okA 168 := ⟨Or.inr ⟨okM_168, okC_168⟩, fun i hi => by
  have hi : i < 38 := hi
  exact okR_at okR_168_0 (by omega) (by omega)⟩
theorem okM_169 : okM 169 = true := by decide +kernel
theorem okC_169 : Cond.code (mnm 169) (mby 169) (mmaxL 169) (mrt 169) ∈ tb := tb_mem (tseg_in (j := 5) (List.mem_of_getElem? (i := 62) rfl)) rfl
theorem okR_169_0 : okR 169 0 14 = true := by decide +kernel
theorem okA_169 : okA 169 := ⟨Or.inr ⟨okM_169, okC_169⟩, fun i hi => by
  have hi : i < 14 := hi
  exact okR_at okR_169_0 (by omega) (by omega)⟩
theorem okM_170 : okM 170 = true := by decide +kernel
theorem okC_170 : Cond.code (mnm 170) (mby 170) (mmaxL 170) (mrt 170) ∈ tb := tb_mem (tseg_in (j := 5) (List.mem_of_getElem? (i := 33) rfl)) rfl
theorem okR_170_0 : okR 170 0 9 = true := by decide +kernel
theorem okA_170 : okA 170 := ⟨Or.inr ⟨okM_170, okC_170⟩, fun i hi => by
  have hi : i < 9 := hi
  exact okR_at okR_170_0 (by omega) (by omega)⟩
theorem okM_171 : okM 171 = true := by decide +kernel
theorem okC_171 : Cond.code (mnm 171) (mby 171) (mmaxL 171) (mrt 171) ∈ tb := tb_mem (tseg_in (j := 5) (List.mem_of_getElem? (i := 81) rfl)) rfl
theorem okR_171_0 : okR 171 0 30 = true := by decide +kernel
theorem okA_171 : okA 171 := ⟨Or.inr ⟨okM_171, okC_171⟩, fun i hi => by
  have hi : i < 30 := hi
  exact okR_at okR_171_0 (by omega) (by omega)⟩
theorem okM_172 : okM 172 = true := by decide +kernel
theorem okC_172 : Cond.code (mnm 172) (mby 172) (mmaxL 172) (mrt 172) ∈ tb := tb_mem (tseg_in (j := 5) (List.mem_of_getElem? (i := 25) rfl)) rfl
theorem okR_172_0 : okR 172 0 6 = true := by decide +kernel
theorem okA_172 : okA 172 := ⟨Or.inr ⟨okM_172, okC_172⟩, fun i hi => by
  have hi : i < 6 := hi
  exact okR_at okR_172_0 (by omega) (by omega)⟩
theorem okM_173 : okM 173 = true := by decide +kernel
theorem okC_173 : Cond.code (mnm 173) (mby 173) (mmaxL 173) (mrt 173) ∈ tb := tb_mem (tseg_in (j := 5) (List.mem_of_getElem? (i := 73) rfl)) rfl
theorem okR_173_0 : okR 173 0 27 = true := by decide +kernel
theorem okA_173 : okA 173 := ⟨Or.inr ⟨okM_173, okC_173⟩, fun i hi => by
  have hi : i < 27 := hi
  exact okR_at okR_173_0 (by omega) (by omega)⟩
theorem okM_174 : okM 174 = true := by decide +kernel
theorem okC_174 : Cond.code (mnm 174) (mby 174) (mmaxL 174) (mrt 174) ∈ tb := tb_mem (tseg_in (j := 5) (List.mem_of_getElem? (i := 70) rfl)) rfl
theorem okR_174_0 : okR 174 0 16 = true := by decide +kernel
theorem okA_174 : okA 174 := ⟨Or.inr ⟨okM_174, okC_174⟩, fun i hi => by
  have hi : i < 16 := hi
  exact okR_at okR_174_0 (by omega) (by omega)⟩
theorem okM_175 : okM 175 = true := by decide +kernel
theorem okC_175 : Cond.code (mnm 175) (mby 175) (mmaxL 175) (mrt 175) ∈ tb := tb_mem (tseg_in (j := 5) (List.mem_of_getElem? (i := 66) rfl)) rfl
theorem okR_175_0 : okR 175 0 102 = true := by decide +kernel
theorem okA_175 : okA 175 := ⟨Or.inr ⟨okM_175, okC_175⟩, fun i hi => by
  have hi : i < 102 := hi
  exact okR_at okR_175_0 (by omega) (by omega)⟩
theorem okM_176 : okM 176 = true := by decide +kernel
theorem okC_176 : Cond.code (mnm 176) (mby 176) (mmaxL 176) (mrt 176) ∈ tb := tb_mem (tseg_in (j := 5) (List.mem_of_getElem? (i := 77) rfl)) rfl
theorem okR_176_0 : okR 176 0 97 = true := by decide +kernel
theorem okA_176 : okA 176 := ⟨Or.inr ⟨okM_176, okC_176⟩, fun i hi => by
  have hi : i < 97 := hi
  exact okR_at okR_176_0 (by omega) (by omega)⟩
theorem okM_177 : okM 177 = true := by decide +kernel
theorem okC_177 : Cond.code (mnm 177) (mby 177) (mmaxL 177) (mrt 177) ∈ tb := tb_mem (tseg_in (j := 5) (List.mem_of_getElem? (i := 29) rfl)) rfl
theorem okR_177_0 : okR 177 0 120 = true := by decide +kernel
theorem okA_177 : okA 177 := ⟨Or.inr ⟨okM_177, okC_177⟩, fun i hi => by
  have hi : i < 120 := hi
  exact okR_at okR_177_0 (by omega) (by omega)⟩
theorem okM_178 : okM 178 = true := by decide +kernel
theorem okC_178 : Cond.code (mnm 178) (mby 178) (mmaxL 178) (mrt 178) ∈ tb := tb_mem (tseg_in (j := 5) (List.mem_of_getElem? (i := 90) rfl)) rfl
theorem okR_178_0 : okR 178 0 9 = true := by decide +kernel
theorem okA_178 : okA 178 := ⟨Or.inr ⟨okM_178, okC_178⟩, fun i hi => by
  have hi : i < 9 := hi
  exact okR_at okR_178_0 (by omega) (by omega)⟩
theorem okM_179 : okM 179 = true := by decide +kernel
theorem okC_179 : Cond.code (mnm 179) (mby 179) (mmaxL 179) (mrt 179) ∈ tb := tb_mem (tseg_in (j := 5) (List.mem_of_getElem? (i := 129) rfl)) rfl
theorem okR_179_0 : okR 179 0 12 = true := by decide +kernel
theorem okA_179 : okA 179 := ⟨Or.inr ⟨okM_179, okC_179⟩, fun i hi => by
  have hi : i < 12 := hi
  exact okR_at okR_179_0 (by omega) (by omega)⟩
theorem okM_180 : okM 180 = true := by decide +kernel
theorem okC_180 : Cond.code (mnm 180) (mby 180) (mmaxL 180) (mrt 180) ∈ tb := tb_mem (tseg_in (j := 5) (List.mem_of_getElem? (i := 141) rfl)) rfl
theorem okR_180_0 : okR 180 0 12 = true := by decide +kernel
theorem okA_180 : okA 180 := ⟨Or.inr ⟨okM_180, okC_180⟩, fun i hi => by
  have hi : i < 12 := hi
  exact okR_at okR_180_0 (by omega) (by omega)⟩
theorem okM_181 : okM 181 = true := by decide +kernel
theorem okC_181 : Cond.code (mnm 181) (mby 181) (mmaxL 181) (mrt 181) ∈ tb := tb_mem (tseg_in (j := 5) (List.mem_of_getElem? (i := 149) rfl)) rfl
theorem okR_181_0 : okR 181 0 12 = true := by decide +kernel
theorem okA_181 : okA 181 := ⟨Or.inr ⟨okM_181, okC_181⟩, fun i hi => by
  have hi : i < 12 := hi
  exact okR_at okR_181_0 (by omega) (by omega)⟩
theorem okM_182 : okM 182 = true := by decide +kernel
theorem okC_182 : Cond.code (mnm 182) (mby 182) (mmaxL 182) (mrt 182) ∈ tb := tb_mem (tseg_in (j := 5) (List.mem_of_getElem? (i := 218) rfl)) rfl
theorem okR_182_0 : okR 182 0 19 = true := by decide +kernel
theorem okA_182 : okA 182 := ⟨Or.inr ⟨okM_182, okC_182⟩, fun i hi => by
  have hi : i < 19 := hi
  exact okR_at okR_182_0 (by omega) (by omega)⟩
theorem okM_183 : okM 183 = true := by decide +kernel
theorem okC_183 : Cond.code (mnm 183) (mby 183) (mmaxL 183) (mrt 183) ∈ tb := tb_mem (tseg_in (j := 5) (List.mem_of_getElem? (i := 221) rfl)) rfl
theorem okR_183_0 : okR 183 0 11 = true := by decide +kernel
theorem okA_183 : okA 183 := ⟨Or.inr ⟨okM_183, okC_183⟩, fun i hi => by
  have hi : i < 11 := hi
  exact okR_at okR_183_0 (by omega) (by omega)⟩
theorem okM_184 : okM 184 = true := by decide +kernel
theorem okC_184 : Cond.code (mnm 184) (mby 184) (mmaxL 184) (mrt 184) ∈ tb := tb_mem (tseg_in (j := 5) (List.mem_of_getElem? (i := 106) rfl)) rfl
theorem okR_184_0 : okR 184 0 10 = true := by decide +kernel
theorem okA_184 : okA 184 := ⟨Or.inr ⟨okM_184, okC_184⟩, fun i hi => by
  have hi : i < 10 := hi
  exact okR_at okR_184_0 (by omega) (by omega)⟩
theorem okM_185 : okM 185 = true := by decide +kernel
theorem okC_185 : Cond.code (mnm 185) (mby 185) (mmaxL 185) (mrt 185) ∈ tb := tb_mem (tseg_in (j := 5) (List.mem_of_getElem? (i := 115) rfl)) rfl
theorem okR_185_0 : okR 185 0 10 = true := by decide +kernel
theorem okA_185 : okA 185 := ⟨Or.inr ⟨okM_185, okC_185⟩, fun i hi => by
  have hi : i < 10 := hi
  exact okR_at okR_185_0 (by omega) (by omega)⟩
theorem okM_186 : okM 186 = true := by decide +kernel
theorem okC_186 : Cond.code (mnm 186) (mby 186) (mmaxL 186) (mrt 186) ∈ tb := tb_mem (tseg_in (j := 5) (List.mem_of_getElem? (i := 103) rfl)) rfl
theorem okR_186_0 : okR 186 0 9 = true := by decide +kernel
theorem okA_186 : okA 186 := ⟨Or.inr ⟨okM_186, okC_186⟩, fun i hi => by
  have hi : i < 9 := hi
  exact okR_at okR_186_0 (by omega) (by omega)⟩
theorem okM_187 : okM 187 = true := by decide +kernel
theorem okC_187 : Cond.code (mnm 187) (mby 187) (mmaxL 187) (mrt 187) ∈ tb := tb_mem (tseg_in (j := 5) (List.mem_of_getElem? (i := 173) rfl)) rfl
theorem okR_187_0 : okR 187 0 14 = true := by decide +kernel
theorem okA_187 : okA 187 := ⟨Or.inr ⟨okM_187, okC_187⟩, fun i hi => by
  have hi : i < 14 := hi
  exact okR_at okR_187_0 (by omega) (by omega)⟩
theorem okM_188 : okM 188 = true := by decide +kernel
theorem okC_188 : Cond.code (mnm 188) (mby 188) (mmaxL 188) (mrt 188) ∈ tb := tb_mem (tseg_in (j := 5) (List.mem_of_getElem? (i := 118) rfl)) rfl
theorem okR_188_0 : okR 188 0 37 = true := by decide +kernel
theorem okA_188 : okA 188 := ⟨Or.inr ⟨okM_188, okC_188⟩, fun i hi => by
  have hi : i < 37 := hi
  exact okR_at okR_188_0 (by omega) (by omega)⟩
theorem okM_189 : okM 189 = true := by decide +kernel
theorem okC_189 : Cond.code (mnm 189) (mby 189) (mmaxL 189) (mrt 189) ∈ tb := tb_mem (tseg_in (j := 5) (List.mem_of_getElem? (i := 112) rfl)) rfl
theorem okR_189_0 : okR 189 0 24 = true := by decide +kernel
theorem okA_189 : okA 189 := ⟨Or.inr ⟨okM_189, okC_189⟩, fun i hi => by
  have hi : i < 24 := hi
  exact okR_at okR_189_0 (by omega) (by omega)⟩
theorem okM_190 : okM 190 = true := by decide +kernel
theorem okC_190 : Cond.code (mnm 190) (mby 190) (mmaxL 190) (mrt 190) ∈ tb := tb_mem (tseg_in (j := 5) (List.mem_of_getElem? (i := 109) rfl)) rfl
theorem okR_190_0 : okR 190 0 64 = true := by decide +kernel
theorem okA_190 : okA 190 := ⟨Or.inr ⟨okM_190, okC_190⟩, fun i hi => by
  have hi : i < 64 := hi
  exact okR_at okR_190_0 (by omega) (by omega)⟩
theorem okM_191 : okM 191 = true := by decide +kernel
theorem okC_191 : Cond.code (mnm 191) (mby 191) (mmaxL 191) (mrt 191) ∈ tb := tb_mem (tseg_in (j := 5) (List.mem_of_getElem? (i := 100) rfl)) rfl
theorem okR_191_0 : okR 191 0 139 = true := by decide +kernel
theorem okA_191 : okA 191 := ⟨Or.inr ⟨okM_191, okC_191⟩, fun i hi => by
  have hi : i < 139 := hi
  exact okR_at okR_191_0 (by omega) (by omega)⟩
theorem okM_192 : okM 192 = true := by decide +kernel
theorem okC_192 : Cond.code (mnm 192) (mby 192) (mmaxL 192) (mrt 192) ∈ tb := tb_mem (tseg_in (j := 5) (List.mem_of_getElem? (i := 186) rfl)) rfl
theorem okR_192_0 : okR 192 0 11 = true := by decide +kernel
theorem okA_192 : okA 192 := ⟨Or.inr ⟨okM_192, okC_192⟩, fun i hi => by
  have hi : i < 11 := hi
  exact okR_at okR_192_0 (by omega) (by omega)⟩
theorem okM_193 : okM 193 = true := by decide +kernel
theorem okC_193 : Cond.code (mnm 193) (mby 193) (mmaxL 193) (mrt 193) ∈ tb := tb_mem (tseg_in (j := 5) (List.mem_of_getElem? (i := 182) rfl)) rfl
theorem okR_193_0 : okR 193 0 16 = true := by decide +kernel
theorem okA_193 : okA 193 := ⟨Or.inr ⟨okM_193, okC_193⟩, fun i hi => by
  have hi : i < 16 := hi
  exact okR_at okR_193_0 (by omega) (by omega)⟩
theorem okM_194 : okM 194 = true := by decide +kernel
theorem okC_194 : Cond.code (mnm 194) (mby 194) (mmaxL 194) (mrt 194) ∈ tb := tb_mem (tseg_in (j := 5) (List.mem_of_getElem? (i := 121) rfl)) rfl
theorem okR_194_0 : okR 194 0 23 = true := by decide +kernel
theorem okA_194 : okA 194 := ⟨Or.inr ⟨okM_194, okC_194⟩, fun i hi => by
  have hi : i < 23 := hi
  exact okR_at okR_194_0 (by omega) (by omega)⟩
theorem okM_195 : okM 195 = true := by decide +kernel
theorem okC_195 : Cond.code (mnm 195) (mby 195) (mmaxL 195) (mrt 195) ∈ tb := tb_mem (tseg_in (j := 5) (List.mem_of_getElem? (i := 133) rfl)) rfl
theorem okR_195_0 : okR 195 0 20 = true := by decide +kernel
theorem okA_195 : okA 195 := ⟨Or.inr ⟨okM_195, okC_195⟩, fun i hi => by
  have hi : i < 20 := hi
  exact okR_at okR_195_0 (by omega) (by omega)⟩
theorem okM_196 : okM 196 = true := by decide +kernel
theorem okC_196 : Cond.code (mnm 196) (mby 196) (mmaxL 196) (mrt 196) ∈ tb := tb_mem (tseg_in (j := 5) (List.mem_of_getElem? (i := 96) rfl)) rfl
theorem okR_196_0 : okR 196 0 54 = true := by decide +kernel
theorem okA_196 : okA 196 := ⟨Or.inr ⟨okM_196, okC_196⟩, fun i hi => by
  have hi : i < 54 := hi
  exact okR_at okR_196_0 (by omega) (by omega)⟩
theorem okM_197 : okM 197 = true := by decide +kernel
theorem okC_197 : Cond.code (mnm 197) (mby 197) (mmaxL 197) (mrt 197) ∈ tb := tb_mem (tseg_in (j := 5) (List.mem_of_getElem? (i := 86) rfl)) rfl
theorem okR_197_0 : okR 197 0 43 = true := by decide +kernel
theorem okA_197 : okA 197 := ⟨Or.inr ⟨okM_197, okC_197⟩, fun i hi => by
  have hi : i < 43 := hi
  exact okR_at okR_197_0 (by omega) (by omega)⟩
theorem okM_198 : okM 198 = true := by decide +kernel
theorem okC_198 : Cond.code (mnm 198) (mby 198) (mmaxL 198) (mrt 198) ∈ tb := tb_mem (tseg_in (j := 5) (List.mem_of_getElem? (i := 125) rfl)) rfl
theorem okR_198_0 : okR 198 0 29 = true := by decide +kernel
theorem okA_198 : okA 198 := ⟨Or.inr ⟨okM_198, okC_198⟩, fun i hi => by
  have hi : i < 29 := hi
  exact okR_at okR_198_0 (by omega) (by omega)⟩
theorem okM_199 : okM 199 = true := by decide +kernel
theorem okC_199 : Cond.code (mnm 199) (mby 199) (mmaxL 199) (mrt 199) ∈ tb := tb_mem (tseg_in (j := 5) (List.mem_of_getElem? (i := 137) rfl)) rfl
theorem okR_199_0 : okR 199 0 36 = true := by decide +kernel
theorem okA_199 : okA 199 := ⟨Or.inr ⟨okM_199, okC_199⟩, fun i hi => by
  have hi : i < 36 := hi
  exact okR_at okR_199_0 (by omega) (by omega)⟩
theorem okM_200 : okM 200 = true := by decide +kernel
theorem okC_200 : Cond.code (mnm 200) (mby 200) (mmaxL 200) (mrt 200) ∈ tb := tb_mem (tseg_in (j := 5) (List.mem_of_getElem? (i := 145) rfl)) rfl
theorem okR_200_0 : okR 200 0 48 = true := by decide +kernel
theorem okA_200 : okA 200 := ⟨Or.inr ⟨okM_200, okC_200⟩, fun i hi => by
  have hi : i < 48 := hi
  exact okR_at okR_200_0 (by omega) (by omega)⟩
theorem okM_201 : okM 201 = true := by decide +kernel
theorem okC_201 : Cond.code (mnm 201) (mby 201) (mmaxL 201) (mrt 201) ∈ tb := tb_mem (tseg_in (j := 5) (List.mem_of_getElem? (i := 153) rfl)) rfl
theorem okR_201_0 : okR 201 0 43 = true := by decide +kernel
theorem okA_201 : okA 201 := ⟨Or.inr ⟨okM_201, okC_201⟩, fun i hi => by
  have hi : i < 43 := hi
  exact okR_at okR_201_0 (by omega) (by omega)⟩
theorem okM_202 : okM 202 = true := by decide +kernel
theorem okC_202 : Cond.code (mnm 202) (mby 202) (mmaxL 202) (mrt 202) ∈ tb := tb_mem (tseg_in (j := 5) (List.mem_of_getElem? (i := 157) rfl)) rfl
theorem okR_202_0 : okR 202 0 37 = true := by decide +kernel
theorem okA_202 : okA 202 := ⟨Or.inr ⟨okM_202, okC_202⟩, fun i hi => by
  have hi : i < 37 := hi
  exact okR_at okR_202_0 (by omega) (by omega)⟩
theorem okM_203 : okM 203 = true := by decide +kernel
theorem okC_203 : Cond.code (mnm 203) (mby 203) (mmaxL 203) (mrt 203) ∈ tb := tb_mem (tseg_in (j := 5) (List.mem_of_getElem? (i := 161) rfl)) rfl
theorem okR_203_0 : okR 203 0 78 = true := by decide +kernel
theorem okA_203 : okA 203 := ⟨Or.inr ⟨okM_203, okC_203⟩, fun i hi => by
  have hi : i < 78 := hi
  exact okR_at okR_203_0 (by omega) (by omega)⟩
theorem okM_204 : okM 204 = true := by decide +kernel
theorem okC_204 : Cond.code (mnm 204) (mby 204) (mmaxL 204) (mrt 204) ∈ tb := tb_mem (tseg_in (j := 5) (List.mem_of_getElem? (i := 166) rfl)) rfl
theorem okR_204_0 : okR 204 0 21 = true := by decide +kernel
theorem okA_204 : okA 204 := ⟨Or.inr ⟨okM_204, okC_204⟩, fun i hi => by
  have hi : i < 21 := hi
  exact okR_at okR_204_0 (by omega) (by omega)⟩
theorem okM_205 : okM 205 = true := by decide +kernel
theorem okC_205 : Cond.code (mnm 205) (mby 205) (mmaxL 205) (mrt 205) ∈ tb := tb_mem (tseg_in (j := 5) (List.mem_of_getElem? (i := 170) rfl)) rfl
theorem okR_205_0 : okR 205 0 81 = true := by decide +kernel
theorem okA_205 : okA 205 := ⟨Or.inr ⟨okM_205, okC_205⟩, fun i hi => by
  have hi : i < 81 := hi
  exact okR_at okR_205_0 (by omega) (by omega)⟩
theorem okM_206 : okM 206 = true := by decide +kernel
theorem okC_206 : Cond.code (mnm 206) (mby 206) (mmaxL 206) (mrt 206) ∈ tb := tb_mem (tseg_in (j := 5) (List.mem_of_getElem? (i := 177) rfl)) rfl
theorem okR_206_0 : okR 206 0 36 = true := by decide +kernel
theorem okA_206 : okA 206 := ⟨Or.inr ⟨okM_206, okC_206⟩, fun i hi => by
  have hi : i < 36 := hi
  exact okR_at okR_206_0 (by omega) (by omega)⟩
theorem okM_207 : okM 207 = true := by decide +kernel
theorem okC_207 : Cond.code (mnm 207) (mby 207) (mmaxL 207) (mrt 207) ∈ tb := tb_mem (tseg_in (j := 5) (List.mem_of_getElem? (i := 190) rfl)) rfl
theorem okR_207_0 : okR 207 0 29 = true := by decide +kernel
theorem okA_207 : okA 207 := ⟨Or.inr ⟨okM_207, okC_207⟩, fun i hi => by
  have hi : i < 29 := hi
  exact okR_at okR_207_0 (by omega) (by omega)⟩
theorem okM_208 : okM 208 = true := by decide +kernel
theorem okC_208 : Cond.code (mnm 208) (mby 208) (mmaxL 208) (mrt 208) ∈ tb := tb_mem (tseg_in (j := 5) (List.mem_of_getElem? (i := 198) rfl)) rfl
theorem okR_208_0 : okR 208 0 20 = true := by decide +kernel
theorem okA_208 : okA 208 := ⟨Or.inr ⟨okM_208, okC_208⟩, fun i hi => by
  have hi : i < 20 := hi
  exact okR_at okR_208_0 (by omega) (by omega)⟩
theorem okM_209 : okM 209 = true := by decide +kernel
theorem okC_209 : Cond.code (mnm 209) (mby 209) (mmaxL 209) (mrt 209) ∈ tb := tb_mem (tseg_in (j := 5) (List.mem_of_getElem? (i := 194) rfl)) rfl
theorem okR_209_0 : okR 209 0 15 = true := by decide +kernel
theorem okA_209 : okA 209 := ⟨Or.inr ⟨okM_209, okC_209⟩, fun i hi => by
  have hi : i < 15 := hi
  exact okR_at okR_209_0 (by omega) (by omega)⟩
theorem okM_210 : okM 210 = true := by decide +kernel
theorem okC_210 : Cond.code (mnm 210) (mby 210) (mmaxL 210) (mrt 210) ∈ tb := tb_mem (tseg_in (j := 5) (List.mem_of_getElem? (i := 202) rfl)) rfl
theorem okR_210_0 : okR 210 0 36 = true := by decide +kernel
theorem okA_210 : okA 210 := ⟨Or.inr ⟨okM_210, okC_210⟩, fun i hi => by
  have hi : i < 36 := hi
  exact okR_at okR_210_0 (by omega) (by omega)⟩
theorem okM_211 : okM 211 = true := by decide +kernel
theorem okC_211 : Cond.code (mnm 211) (mby 211) (mmaxL 211) (mrt 211) ∈ tb := tb_mem (tseg_in (j := 5) (List.mem_of_getElem? (i := 206) rfl)) rfl
theorem okR_211_0 : okR 211 0 48 = true := by decide +kernel
theorem okA_211 : okA 211 := ⟨Or.inr ⟨okM_211, okC_211⟩, fun i hi => by
  have hi : i < 48 := hi
  exact okR_at okR_211_0 (by omega) (by omega)⟩
theorem okM_212 : okM 212 = true := by decide +kernel
theorem okC_212 : Cond.code (mnm 212) (mby 212) (mmaxL 212) (mrt 212) ∈ tb := tb_mem (tseg_in (j := 5) (List.mem_of_getElem? (i := 210) rfl)) rfl
theorem okR_212_0 : okR 212 0 38 = true := by decide +kernel
theorem okA_212 : okA 212 := ⟨Or.inr ⟨okM_212, okC_212⟩, fun i hi => by
  have hi : i < 38 := hi
  exact okR_at okR_212_0 (by omega) (by omega)⟩
theorem okM_213 : okM 213 = true := by decide +kernel
theorem okC_213 : Cond.code (mnm 213) (mby 213) (mmaxL 213) (mrt 213) ∈ tb := tb_mem (tseg_in (j := 5) (List.mem_of_getElem? (i := 214) rfl)) rfl
theorem okR_213_0 : okR 213 0 136 = true := by decide +kernel
theorem okA_213 : okA 213 := ⟨Or.inr ⟨okM_213, okC_213⟩, fun i hi => by
  have hi : i < 136 := hi
  exact okR_at okR_213_0 (by omega) (by omega)⟩
theorem okM_214 : okM 214 = true := by decide +kernel
theorem okC_214 : Cond.code (mnm 214) (mby 214) (mmaxL 214) (mrt 214) ∈ tb := tb_mem (tseg_in (j := 5) (List.mem_of_getElem? (i := 225) rfl)) rfl
theorem okR_214_0 : okR 214 0 96 = true := by decide +kernel
theorem okA_214 : okA 214 := ⟨Or.inr ⟨okM_214, okC_214⟩, fun i hi => by
  have hi : i < 96 := hi
  exact okR_at okR_214_0 (by omega) (by omega)⟩
theorem okM_215 : okM 215 = true := by decide +kernel
theorem okC_215 : Cond.code (mnm 215) (mby 215) (mmaxL 215) (mrt 215) ∈ tb := tb_mem (tseg_in (j := 5) (List.mem_of_getElem? (i := 229) rfl)) rfl
theorem okR_215_0 : okR 215 0 78 = true := by decide +kernel
theorem okA_215 : okA 215 := ⟨Or.inr ⟨okM_215, okC_215⟩, fun i hi => by
  have hi : i < 78 := hi
  exact okR_at okR_215_0 (by omega) (by omega)⟩
theorem okM_216 : okM 216 = true := by decide +kernel
theorem okC_216 : Cond.code (mnm 216) (mby 216) (mmaxL 216) (mrt 216) ∈ tb := tb_mem (tseg_in (j := 5) (List.mem_of_getElem? (i := 237) rfl)) rfl
theorem okR_216_0 : okR 216 0 77 = true := by decide +kernel
theorem okA_216 : okA 216 := ⟨Or.inr ⟨okM_216, okC_216⟩, fun i hi => by
  have hi : i < 77 := hi
  exact okR_at okR_216_0 (by omega) (by omega)⟩
theorem okM_217 : okM 217 = true := by decide +kernel
theorem okC_217 : Cond.code (mnm 217) (mby 217) (mmaxL 217) (mrt 217) ∈ tb := tb_mem (tseg_in (j := 5) (List.mem_of_getElem? (i := 233) rfl)) rfl
theorem okR_217_0 : okR 217 0 38 = true := by decide +kernel
theorem okA_217 : okA 217 := ⟨Or.inr ⟨okM_217, okC_217⟩, fun i hi => by
  have hi : i < 38 := hi
  exact okR_at okR_217_0 (by omega) (by omega)⟩
theorem okM_218 : okM 218 = true := by decide +kernel
theorem okC_218 : Cond.code (mnm 218) (mby 218) (mmaxL 218) (mrt 218) ∈ tb := tb_mem (tseg_in (j := 6) (List.mem_of_getElem? (i := 1) rfl)) rfl
theorem okR_218_0 : okR 218 0 21 = true := by decide +kernel
theorem okA_218 : okA 218 := ⟨Or.inr ⟨okM_218, okC_218⟩, fun i hi => by
  have hi : i < 21 := hi
  exact okR_at okR_218_0 (by omega) (by omega)⟩
theorem okM_219 : okM 219 = true := by decide +kernel
theorem okC_219 : Cond.code (mnm 219) (mby 219) (mmaxL 219) (mrt 219) ∈ tb := tb_mem (tseg_in (j := 6) (List.mem_of_getElem? (i := 5) rfl)) rfl
theorem okR_219_0 : okR 219 0 40 = true := by decide +kernel
theorem okA_219 : okA 219 := ⟨Or.inr ⟨okM_219, okC_219⟩, fun i hi => by
  have hi : i < 40 := hi
  exact okR_at okR_219_0 (by omega) (by omega)⟩
theorem okM_220 : okM 220 = true := by decide +kernel
theorem okC_220 : Cond.code (mnm 220) (mby 220) (mmaxL 220) (mrt 220) ∈ tb := tb_mem (tseg_in (j := 6) (List.mem_of_getElem? (i := 9) rfl)) rfl
theorem okR_220_0 : okR 220 0 104 = true := by decide +kernel
theorem okA_220 : okA 220 := ⟨Or.inr ⟨okM_220, okC_220⟩, fun i hi => by
  have hi : i < 104 := hi
  exact okR_at okR_220_0 (by omega) (by omega)⟩
theorem okM_221 : okM 221 = true := by decide +kernel
theorem okC_221 : Cond.code (mnm 221) (mby 221) (mmaxL 221) (mrt 221) ∈ tb := tb_mem (tseg_in (j := 6) (List.mem_of_getElem? (i := 22) rfl)) rfl
theorem okR_221_0 : okR 221 0 33 = true := by decide +kernel
theorem okA_221 : okA 221 := ⟨Or.inr ⟨okM_221, okC_221⟩, fun i hi => by
  have hi : i < 33 := hi
  exact okR_at okR_221_0 (by omega) (by omega)⟩
theorem okM_222 : okM 222 = true := by decide +kernel
theorem okC_222 : Cond.code (mnm 222) (mby 222) (mmaxL 222) (mrt 222) ∈ tb := tb_mem (tseg_in (j := 6) (List.mem_of_getElem? (i := 18) rfl)) rfl
theorem okR_222_0 : okR 222 0 32 = true := by decide +kernel
theorem okA_222 : okA 222 := ⟨Or.inr ⟨okM_222, okC_222⟩, fun i hi => by
  have hi : i < 32 := hi
  exact okR_at okR_222_0 (by omega) (by omega)⟩
theorem okM_223 : okM 223 = true := by decide +kernel
theorem okC_223 : Cond.code (mnm 223) (mby 223) (mmaxL 223) (mrt 223) ∈ tb := tb_mem (tseg_in (j := 6) (List.mem_of_getElem? (i := 13) rfl)) rfl
theorem okR_223_0 : okR 223 0 113 = true := by decide +kernel
theorem okA_223 : okA 223 := ⟨Or.inr ⟨okM_223, okC_223⟩, fun i hi => by
  have hi : i < 113 := hi
  exact okR_at okR_223_0 (by omega) (by omega)⟩
theorem okM_224 : okM 224 = true := by decide +kernel
theorem okC_224 : Cond.code (mnm 224) (mby 224) (mmaxL 224) (mrt 224) ∈ tb := tb_mem (tseg_in (j := 6) (List.mem_of_getElem? (i := 26) rfl)) rfl
theorem okR_224_0 : okR 224 0 74 = true := by decide +kernel
theorem okA_224 : okA 224 := ⟨Or.inr ⟨okM_224, okC_224⟩, fun i hi => by
  have hi : i < 74 := hi
  exact okR_at okR_224_0 (by omega) (by omega)⟩
theorem okM_225 : okM 225 = true := by decide +kernel
theorem okC_225 : Cond.code (mnm 225) (mby 225) (mmaxL 225) (mrt 225) ∈ tb := tb_mem (tseg_in (j := 6) (List.mem_of_getElem? (i := 30) rfl)) rfl
theorem okR_225_0 : okR 225 0 63 = true := by decide +kernel
theorem okA_225 : okA 225 := ⟨Or.inr ⟨okM_225, okC_225⟩, fun i hi => by
  have hi : i < 63 := hi
  exact okR_at okR_225_0 (by omega) (by omega)⟩
theorem okM_226 : okM 226 = true := by decide +kernel
theorem okC_226 : Cond.code (mnm 226) (mby 226) (mmaxL 226) (mrt 226) ∈ tb := tb_mem (tseg_in (j := 6) (List.mem_of_getElem? (i := 34) rfl)) rfl
theorem okR_226_0 : okR 226 0 175 = true := by decide +kernel
theorem okA_226 : okA 226 := ⟨Or.inr ⟨okM_226, okC_226⟩, fun i hi => by
  have hi : i < 175 := hi
  exact okR_at okR_226_0 (by omega) (by omega)⟩
theorem okM_227 : okM 227 = true := by decide +kernel
theorem okC_227 : Cond.code (mnm 227) (mby 227) (mmaxL 227) (mrt 227) ∈ tb := tb_mem (tseg_in (j := 6) (List.mem_of_getElem? (i := 40) rfl)) rfl
theorem okR_227_0 : okR 227 0 104 = true := by decide +kernel
theorem okA_227 : okA 227 := ⟨Or.inr ⟨okM_227, okC_227⟩, fun i hi => by
  have hi : i < 104 := hi
  exact okR_at okR_227_0 (by omega) (by omega)⟩
theorem okM_228 : okM 228 = true := by decide +kernel
theorem okC_228 : Cond.code (mnm 228) (mby 228) (mmaxL 228) (mrt 228) ∈ tb := tb_mem (tseg_in (j := 6) (List.mem_of_getElem? (i := 49) rfl)) rfl
theorem okR_228_0 : okR 228 0 42 = true := by decide +kernel
theorem okA_228 : okA 228 := ⟨Or.inr ⟨okM_228, okC_228⟩, fun i hi => by
  have hi : i < 42 := hi
  exact okR_at okR_228_0 (by omega) (by omega)⟩
theorem okM_229 : okM 229 = true := by decide +kernel
theorem okC_229 : Cond.code (mnm 229) (mby 229) (mmaxL 229) (mrt 229) ∈ tb := tb_mem (tseg_in (j := 6) (List.mem_of_getElem? (i := 53) rfl)) rfl
theorem okR_229_0 : okR 229 0 42 = true := by decide +kernel
theorem okA_229 : okA 229 := ⟨Or.inr ⟨okM_229, okC_229⟩, fun i hi => by
  have hi : i < 42 := hi
  exact okR_at okR_229_0 (by omega) (by omega)⟩
theorem okM_230 : okM 230 = true := by decide +kernel
theorem okC_230 : Cond.code (mnm 230) (mby 230) (mmaxL 230) (mrt 230) ∈ tb := tb_mem (tseg_in (j := 6) (List.mem_of_getElem? (i := 64) rfl)) rfl
theorem okR_230_0 : okR 230 0 21 = true := by decide +kernel
theorem okA_230 : okA 230 := ⟨Or.inr ⟨okM_230, okC_230⟩, fun i hi => by
  have hi : i < 21 := hi
  exact okR_at okR_230_0 (by omega) (by omega)⟩
theorem okM_231 : okM 231 = true := by decide +kernel
theorem okC_231 : Cond.code (mnm 231) (mby 231) (mmaxL 231) (mrt 231) ∈ tb := tb_mem (tseg_in (j := 6) (List.mem_of_getElem? (i := 57) rfl)) rfl
theorem okR_231_0 : okR 231 0 15 = true := by decide +kernel
theorem okA_231 : okA 231 := ⟨Or.inr ⟨okM_231, okC_231⟩, fun i hi => by
  have hi : i < 15 := hi
  exact okR_at okR_231_0 (by omega) (by omega)⟩
theorem okM_232 : okM 232 = true := by decide +kernel
theorem okC_232 : Cond.code (mnm 232) (mby 232) (mmaxL 232) (mrt 232) ∈ tb := tb_mem (tseg_in (j := 6) (List.mem_of_getElem? (i := 61) rfl)) rfl
theorem okR_232_0 : okR 232 0 32 = true := by decide +kernel
theorem okA_232 : okA 232 := ⟨Or.inr ⟨okM_232, okC_232⟩, fun i hi => by
  have hi : i < 32 := hi
  exact okR_at okR_232_0 (by omega) (by omega)⟩
theorem okM_233 : okM 233 = true := by decide +kernel
theorem okC_233 : Cond.code (mnm 233) (mby 233) (mmaxL 233) (mrt 233) ∈ tb := tb_mem (tseg_in (j := 6) (List.mem_of_getElem? (i := 80) rfl)) rfl
theorem okR_233_0 : okR 233 0 17 = true := by decide +kernel
theorem okA_233 : okA 233 := ⟨Or.inr ⟨okM_233, okC_233⟩, fun i hi => by
  have hi : i < 17 := hi
  exact okR_at okR_233_0 (by omega) (by omega)⟩
theorem okM_234 : okM 234 = true := by decide +kernel
theorem okC_234 : Cond.code (mnm 234) (mby 234) (mmaxL 234) (mrt 234) ∈ tb := tb_mem (tseg_in (j := 6) (List.mem_of_getElem? (i := 84) rfl)) rfl
theorem okR_234_0 : okR 234 0 9 = true := by decide +kernel
theorem okA_234 : okA 234 := ⟨Or.inr ⟨okM_234, okC_234⟩, fun i hi => by
  have hi : i < 9 := hi
  exact okR_at okR_234_0 (by omega) (by omega)⟩
theorem okM_235 : okM 235 = true := by decide +kernel
theorem okC_235 : Cond.code (mnm 235) (mby 235) (mmaxL 235) (mrt 235) ∈ tb := tb_mem (tseg_in (j := 6) (List.mem_of_getElem? (i := 76) rfl)) rfl
theorem okR_235_0 : okR 235 0 33 = true := by decide +kernel
theorem okA_235 : okA 235 := ⟨Or.inr ⟨okM_235, okC_235⟩, fun i hi => by
  have hi : i < 33 := hi
  exact okR_at okR_235_0 (by omega) (by omega)⟩
theorem okM_236 : okM 236 = true := by decide +kernel
theorem okC_236 : Cond.code (mnm 236) (mby 236) (mmaxL 236) (mrt 236) ∈ tb := tb_mem (tseg_in (j := 6) (List.mem_of_getElem? (i := 88) rfl)) rfl
theorem okR_236_0 : okR 236 0 62 = true := by decide +kernel
theorem okA_236 : okA 236 := ⟨Or.inr ⟨okM_236, okC_236⟩, fun i hi => by
  have hi : i < 62 := hi
  exact okR_at okR_236_0 (by omega) (by omega)⟩
theorem okM_237 : okM 237 = true := by decide +kernel
theorem okC_237 : Cond.code (mnm 237) (mby 237) (mmaxL 237) (mrt 237) ∈ tb := tb_mem (tseg_in (j := 6) (List.mem_of_getElem? (i := 72) rfl)) rfl
theorem okR_237_0 : okR 237 0 40 = true := by decide +kernel
theorem okA_237 : okA 237 := ⟨Or.inr ⟨okM_237, okC_237⟩, fun i hi => by
  have hi : i < 40 := hi
  exact okR_at okR_237_0 (by omega) (by omega)⟩
theorem okM_238 : okM 238 = true := by decide +kernel
theorem okC_238 : Cond.code (mnm 238) (mby 238) (mmaxL 238) (mrt 238) ∈ tb := tb_mem (tseg_in (j := 6) (List.mem_of_getElem? (i := 68) rfl)) rfl
theorem okR_238_0 : okR 238 0 28 = true := by decide +kernel
theorem okA_238 : okA 238 := ⟨Or.inr ⟨okM_238, okC_238⟩, fun i hi => by
  have hi : i < 28 := hi
  exact okR_at okR_238_0 (by omega) (by omega)⟩
theorem okM_239 : okM 239 = true := by decide +kernel
theorem okC_239 : Cond.code (mnm 239) (mby 239) (mmaxL 239) (mrt 239) ∈ tb := tb_mem (tseg_in (j := 6) (List.mem_of_getElem? (i := 92) rfl)) rfl
theorem okR_239_0 : okR 239 0 20 = true := by decide +kernel
theorem okA_239 : okA 239 := ⟨Or.inr ⟨okM_239, okC_239⟩, fun i hi => by
  have hi : i < 20 := hi
  exact okR_at okR_239_0 (by omega) (by omega)⟩
theorem okM_240 : okM 240 = true := by decide +kernel
theorem okC_240 : Cond.code (mnm 240) (mby 240) (mmaxL 240) (mrt 240) ∈ tb := tb_mem (tseg_in (j := 6) (List.mem_of_getElem? (i := 96) rfl)) rfl
theorem okR_240_0 : okR 240 0 73 = true := by decide +kernel
theorem okA_240 : okA 240 := ⟨Or.inr ⟨okM_240, okC_240⟩, fun i hi => by
  have hi : i < 73 := hi
  exact okR_at okR_240_0 (by omega) (by omega)⟩
theorem okM_241 : okM 241 = true := by decide +kernel
theorem okC_241 : Cond.code (mnm 241) (mby 241) (mmaxL 241) (mrt 241) ∈ tb := tb_mem (tseg_in (j := 6) (List.mem_of_getElem? (i := 100) rfl)) rfl
theorem okR_241_0 : okR 241 0 6 = true := by decide +kernel
theorem okA_241 : okA 241 := ⟨Or.inr ⟨okM_241, okC_241⟩, fun i hi => by
  have hi : i < 6 := hi
  exact okR_at okR_241_0 (by omega) (by omega)⟩
theorem okR_242_0 : okR 242 0 200 = true := by decide +kernel
theorem okR_242_200 : okR 242 200 200 = true := by decide +kernel
theorem okR_242_400 : okR 242 400 200 = true := by decide +kernel
theorem okR_242_600 : okR 242 600 200 = true := by decide +kernel
theorem okR_242_800 : okR 242 800 200 = true := by decide +kernel
theorem okR_242_1000 : okR 242 1000 151 = true := by decide +kernel
theorem okA_242 : okA 242 := ⟨Or.inl rfl, fun i hi => by
  have hi : i < 1151 := hi
  by_cases h0 : i < 200
  · exact okR_at okR_242_0 (by omega) (by omega)
  by_cases h1 : i < 400
  · exact okR_at okR_242_200 (by omega) (by omega)
  by_cases h2 : i < 600
  · exact okR_at okR_242_400 (by omega) (by omega)
  by_cases h3 : i < 800
  · exact okR_at okR_242_600 (by omega) (by omega)
  by_cases h4 : i < 1000
  · exact okR_at okR_242_800 (by omega) (by omega)
  exact okR_at okR_242_1000 (by omega) (by omega)⟩
theorem okT_0_7 (M : Nat) (h1 : 0 ≤ M) (h2 : M < 7) (n1 : ¬ M = 1) (n2 : ¬ M = 2) : okA M := by
  rcases (show M = 0 ∨ M = 1 ∨ M = 2 ∨ M = 3 ∨ M = 4 ∨ M = 5 ∨ M = 6 by omega) with rfl | rfl | rfl | rfl | rfl | rfl | rfl
  · exact okA_0
  · exact absurd rfl (by assumption)
  · exact absurd rfl (by assumption)
  · exact okA_3
  · exact okA_4
  · exact okA_5
  · exact okA_6
theorem okT_7_15 (M : Nat) (h1 : 7 ≤ M) (h2 : M < 15) (n1 : ¬ M = 1) (n2 : ¬ M = 2) : okA M := by
  rcases (show M = 7 ∨ M = 8 ∨ M = 9 ∨ M = 10 ∨ M = 11 ∨ M = 12 ∨ M = 13 ∨ M = 14 by omega) with rfl | rfl | rfl | rfl | rfl | rfl | rfl | rfl
  · exact okA_7
  · exact okA_8
  · exact okA_9
  · exact okA_10
  · exact okA_11
  · exact okA_12
  · exact okA_13
  · exact okA_14
theorem okT_0_15 (M : Nat) (h1 : 0 ≤ M) (h2 : M < 15) (n1 : ¬ M = 1) (n2 : ¬ M = 2) : okA M := by
  rcases Nat.lt_or_ge M 7 with q | q
  · exact okT_0_7 M h1 q n1 n2
  · exact okT_7_15 M q h2 n1 n2
theorem okT_15_22 (M : Nat) (h1 : 15 ≤ M) (h2 : M < 22) (n1 : ¬ M = 1) (n2 : ¬ M = 2) : okA M := by
  rcases (show M = 15 ∨ M = 16 ∨ M = 17 ∨ M = 18 ∨ M = 19 ∨ M = 20 ∨ M = 21 by omega) with rfl | rfl | rfl | rfl | rfl | rfl | rfl
  · exact okA_15
  · exact okA_16
  · exact okA_17
  · exact okA_18
  · exact okA_19
  · exact okA_20
  · exact okA_21
theorem okT_22_30 (M : Nat) (h1 : 22 ≤ M) (h2 : M < 30) (n1 : ¬ M = 1) (n2 : ¬ M = 2) : okA M := by
  rcases (show M = 22 ∨ M = 23 ∨ M = 24 ∨ M = 25 ∨ M = 26 ∨ M = 27 ∨ M = 28 ∨ M = 29 by omega) with rfl | rfl | rfl | rfl | rfl | rfl | rfl | rfl
  · exact okA_22
  · exact okA_23
  · exact okA_24
  · exact okA_25
  · exact okA_26
  · exact okA_27
  · exact okA_28
  · exact okA_29
theorem okT_15_30 (M : Nat) (h1 : 15 ≤ M) (h2 : M < 30) (n1 : ¬ M = 1) (n2 : ¬ M = 2) : okA M := by
  rcases Nat.lt_or_ge M 22 with q | q
  · exact okT_15_22 M h1 q n1 n2
  · exact okT_22_30 M q h2 n1 n2
theorem okT_0_30 (M : Nat) (h1 : 0 ≤ M) (h2 : M < 30) (n1 : ¬ M = 1) (n2 : ¬ M = 2) : okA M := by
  rcases Nat.lt_or_ge M 15 with q | q
  · exact okT_0_15 M h1 q n1 n2
  · exact okT_15_30 M q h2 n1 n2
theorem okT_30_37 (M : Nat) (h1 : 30 ≤ M) (h2 : M < 37) (n1 : ¬ M = 1) (n2 : ¬ M = 2) : okA M := by
  rcases (show M = 30 ∨ M = 31 ∨ M = 32 ∨ M = 33 ∨ M = 34 ∨ M = 35 ∨ M = 36 by omega) with rfl | rfl | rfl | rfl | rfl | rfl | rfl
  · exact okA_30
  · exact okA_31
  · exact okA_32
  · exact okA_33
  · exact okA_34
  · exact okA_35
  · exact okA_36
theorem okT_37_45 (M : Nat) (h1 : 37 ≤ M) (h2 : M < 45) (n1 : ¬ M = 1) (n2 : ¬ M = 2) : okA M := by
  rcases (show M = 37 ∨ M = 38 ∨ M = 39 ∨ M = 40 ∨ M = 41 ∨ M = 42 ∨ M = 43 ∨ M = 44 by omega) with rfl | rfl | rfl | rfl | rfl | rfl | rfl | rfl
  · exact okA_37
  · exact okA_38
  · exact okA_39
  · exact okA_40
  · exact okA_41
  · exact okA_42
  · exact okA_43
  · exact okA_44
theorem okT_30_45 (M : Nat) (h1 : 30 ≤ M) (h2 : M < 45) (n1 : ¬ M = 1) (n2 : ¬ M = 2) : okA M := by
  rcases Nat.lt_or_ge M 37 with q | q
  · exact okT_30_37 M h1 q n1 n2
  · exact okT_37_45 M q h2 n1 n2
theorem okT_45_52 (M : Nat) (h1 : 45 ≤ M) (h2 : M < 52) (n1 : ¬ M = 1) (n2 : ¬ M = 2) : okA M := by
  rcases (show M = 45 ∨ M = 46 ∨ M = 47 ∨ M = 48 ∨ M = 49 ∨ M = 50 ∨ M = 51 by omega) with rfl | rfl | rfl | rfl | rfl | rfl | rfl
  · exact okA_45
  · exact okA_46
  · exact okA_47
  · exact okA_48
  · exact okA_49
  · exact okA_50
  · exact okA_51
theorem okT_52_60 (M : Nat) (h1 : 52 ≤ M) (h2 : M < 60) (n1 : ¬ M = 1) (n2 : ¬ M = 2) : okA M := by
  rcases (show M = 52 ∨ M = 53 ∨ M = 54 ∨ M = 55 ∨ M = 56 ∨ M = 57 ∨ M = 58 ∨ M = 59 by omega) with rfl | rfl | rfl | rfl | rfl | rfl | rfl | rfl
  · exact okA_52
  · exact okA_53
  · exact okA_54
  · exact okA_55
  · exact okA_56
  · exact okA_57
  · exact okA_58
  · exact okA_59
theorem okT_45_60 (M : Nat) (h1 : 45 ≤ M) (h2 : M < 60) (n1 : ¬ M = 1) (n2 : ¬ M = 2) : okA M := by
  rcases Nat.lt_or_ge M 52 with q | q
  · exact okT_45_52 M h1 q n1 n2
  · exact okT_52_60 M q h2 n1 n2
theorem okT_30_60 (M : Nat) (h1 : 30 ≤ M) (h2 : M < 60) (n1 : ¬ M = 1) (n2 : ¬ M = 2) : okA M := by
  rcases Nat.lt_or_ge M 45 with q | q
  · exact okT_30_45 M h1 q n1 n2
  · exact okT_45_60 M q h2 n1 n2
theorem okT_0_60 (M : Nat) (h1 : 0 ≤ M) (h2 : M < 60) (n1 : ¬ M = 1) (n2 : ¬ M = 2) : okA M := by
  rcases Nat.lt_or_ge M 30 with q | q
  · exact okT_0_30 M h1 q n1 n2
  · exact okT_30_60 M q h2 n1 n2
theorem okT_60_67 (M : Nat) (h1 : 60 ≤ M) (h2 : M < 67) (n1 : ¬ M = 1) (n2 : ¬ M = 2) : okA M := by
  rcases (show M = 60 ∨ M = 61 ∨ M = 62 ∨ M = 63 ∨ M = 64 ∨ M = 65 ∨ M = 66 by omega) with rfl | rfl | rfl | rfl | rfl | rfl | rfl
  · exact okA_60
  · exact okA_61
  · exact okA_62
  · exact okA_63
  · exact okA_64
  · exact okA_65
  · exact okA_66
theorem okT_67_75 (M : Nat) (h1 : 67 ≤ M) (h2 : M < 75) (n1 : ¬ M = 1) (n2 : ¬ M = 2) : okA M := by
  rcases (show M = 67 ∨ M = 68 ∨ M = 69 ∨ M = 70 ∨ M = 71 ∨ M = 72 ∨ M = 73 ∨ M = 74 by omega) with rfl | rfl | rfl | rfl | rfl | rfl | rfl | rfl
  · exact okA_67
  · exact okA_68
  · exact okA_69
  · exact okA_70
  · exact okA_71
  · exact okA_72
  · exact okA_73
  · exact okA_74
theorem okT_60_75 (M : Nat) (h1 : 60 ≤ M) (h2 : M < 75) (n1 : ¬ M = 1) (n2 : ¬ M = 2) : okA M := by
  rcases Nat.lt_or_ge M 67 with q | q
  · exact okT_60_67 M h1 q n1 n2
  · exact okT_67_75 M q h2 n1 n2
theorem okT_75_82 (M : Nat) (h1 : 75 ≤ M) (h2 : M < 82) (n1 : ¬ M = 1) (n2 : ¬ M = 2) : okA M := by
  rcases (show M = 75 ∨ M = 76 ∨ M = 77 ∨ M = 78 ∨ M = 79 ∨ M = 80 ∨ M = 81 by omega) with rfl | rfl | rfl | rfl | rfl | rfl | rfl
  · exact okA_75
  · exact okA_76
  · exact okA_77
  · exact okA_78
  · exact okA_79
  · exact okA_80
  · exact okA_81
theorem okT_82_90 (M : Nat) (h1 : 82 ≤ M) (h2 : M < 90) (n1 : ¬ M = 1) (n2 : ¬ M = 2) : okA M := by
  rcases (show M = 82 ∨ M = 83 ∨ M = 84 ∨ M = 85 ∨ M = 86 ∨ M = 87 ∨ M = 88 ∨ M = 89 by omega) with rfl | rfl | rfl | rfl | rfl | rfl | rfl | rfl
  · exact okA_82
  · exact okA_83
  · exact okA_84
  · exact okA_85
  · exact okA_86
  · exact okA_87
  · exact okA_88
  · exact okA_89
theorem okT_75_90 (M : Nat) (h1 : 75 ≤ M) (h2 : M < 90) (n1 : ¬ M = 1) (n2 : ¬ M = 2) : okA M := by
  rcases Nat.lt_or_ge M 82 with q | q
  · exact okT_75_82 M h1 q n1 n2
  · exact okT_82_90 M q h2 n1 n2
theorem okT_60_90 (M : Nat) (h1 : 60 ≤ M) (h2 : M < 90) (n1 : ¬ M = 1) (n2 : ¬ M = 2) : okA M := by
  rcases Nat.lt_or_ge M 75 with q | q
  · exact okT_60_75 M h1 q n1 n2
  · exact okT_75_90 M q h2 n1 n2
theorem okT_90_97 (M : Nat) (h1 : 90 ≤ M) (h2 : M < 97) (n1 : ¬ M = 1) (n2 : ¬ M = 2) : okA M := by
  rcases (show M = 90 ∨ M = 91 ∨ M = 92 ∨ M = 93 ∨ M = 94 ∨ M = 95 ∨ M = 96 by omega) with rfl | rfl | rfl | rfl | rfl | rfl | rfl
  · exact okA_90
  · exact okA_91
  · exact okA_92
  · exact okA_93
  · exact okA_94
  · exact okA_95
  · exact okA_96
theorem okT_97_105 (M : Nat) (h1 : 97 ≤ M) (h2 : M < 105) (n1 : ¬ M = 1) (n2 : ¬ M = 2) : okA M := by
  rcases (show M = 97 ∨ M = 98 ∨ M = 99 ∨ M = 100 ∨ M = 101 ∨ M = 102 ∨ M = 103 ∨ M = 104 by omega) with rfl | rfl | rfl | rfl | rfl | rfl | rfl | rfl
  · exact okA_97
  · exact okA_98
  · exact okA_99
  · exact okA_100
  · exact okA_101
  · exact okA_102
  · exact okA_103
  · exact okA_104
theorem okT_90_105 (M : Nat) (h1 : 90 ≤ M) (h2 : M < 105) (n1 : ¬ M = 1) (n2 : ¬ M = 2) : okA M := by
  rcases Nat.lt_or_ge M 97 with q | q
  · exact okT_90_97 M h1 q n1 n2
  · exact okT_97_105 M q h2 n1 n2
theorem okT_105_113 (M : Nat) (h1 : 105 ≤ M) (h2 : M < 113) (n1 : ¬ M = 1) (n2 : ¬ M = 2) : okA M := by
  rcases (show M = 105 ∨ M = 106 ∨ M = 107 ∨ M = 108 ∨ M = 109 ∨ M = 110 ∨ M = 111 ∨ M = 112 by omega) with rfl | rfl | rfl | rfl | rfl | rfl | rfl | rfl
  · exact okA_105
  · exact okA_106
  · exact okA_107
  · exact okA_108
  · exact okA_109
  · exact okA_110
  · exact okA_111
  · exact okA_112
theorem okT_113_121 (M : Nat) (h1 : 113 ≤ M) (h2 : M < 121) (n1 : ¬ M = 1) (n2 : ¬ M = 2) : okA M := by
  rcases (show M = 113 ∨ M = 114 ∨ M = 115 ∨ M = 116 ∨ M = 117 ∨ M = 118 ∨ M = 119 ∨ M = 120 by omega) with rfl | rfl | rfl | rfl | rfl | rfl | rfl | rfl
  · exact okA_113
  · exact okA_114
  · exact okA_115
  · exact okA_116
  · exact okA_117
  · exact okA_118
  · exact okA_119
  · exact okA_120
theorem okT_105_121 (M : Nat) (h1 : 105 ≤ M) (h2 : M < 121) (n1 : ¬ M = 1) (n2 : ¬ M = 2) : okA M := by
  rcases Nat.lt_or_ge M 113 with q | q
  · exact okT_105_113 M h1 q n1 n2
  · exact okT_113_121 M q h2 n1 n2
theorem okT_90_121 (M : Nat) (h1 : 90 ≤ M) (h2 : M < 121) (n1 : ¬ M = 1) (n2 : ¬ M = 2) : okA M := by
  rcases Nat.lt_or_ge M 105 with q | q
  · exact okT_90_105 M h1 q n1 n2
  · exact okT_105_121 M q h2 n1 n2
theorem okT_60_121 (M : Nat) (h1 : 60 ≤ M) (h2 : M < 121) (n1 : ¬ M = 1) (n2 : ¬ M = 2) : okA M := by
  rcases Nat.lt_or_ge M 90 with q | q
  · exact okT_60_90 M h1 q n1 n2
  · exact okT_90_121 M q h2 n1 n2
theorem okT_0_121 (M : Nat) (h1 : 0 ≤ M) (h2 : M < 121) (n1 : ¬ M = 1) (n2 : ¬ M = 2) : okA M := by
  rcases Nat.lt_or_ge M 60 with q | q
  · exact okT_0_60 M h1 q n1 n2
  · exact okT_60_121 M q h2 n1 n2
theorem okT_121_128 (M : Nat) (h1 : 121 ≤ M) (h2 : M < 128) (n1 : ¬ M = 1) (n2 : ¬ M = 2) : okA M := by
  rcases (show M = 121 ∨ M = 122 ∨ M = 123 ∨ M = 124 ∨ M = 125 ∨ M = 126 ∨ M = 127 by omega) with rfl | rfl | rfl | rfl | rfl | rfl | rfl
  · exact okA_121
  · exact okA_122
  · exact okA_123
  · exact okA_124
  · exact okA_125
  · exact okA_126
  · exact okA_127
theorem okT_128_136 (M : Nat) (h1 : 128 ≤ M) (h2 : M < 136) (n1 : ¬ M = 1) (n2 : ¬ M = 2) : okA M := by
  rcases (show M = 128 ∨ M = 129 ∨ M = 130 ∨ M = 131 ∨ M = 132 ∨ M = 133 ∨ M = 134 ∨ M = 135 by omega) with rfl | rfl | rfl | rfl | rfl | rfl | rfl | rfl
  · exact okA_128
  · exact okA_129
  · exact okA_130
  · exact okA_131
  · exact okA_132
  · exact okA_133
  · exact okA_134
  · exact okA_135
theorem okT_121_136 (M : Nat) (h1 : 121 ≤ M) (h2 : M < 136) (n1 : ¬ M = 1) (n2 : ¬ M = 2) : okA M := by
  rcases Nat.lt_or_ge M 128 with q | q
  · exact okT_121_128 M h1 q n1 n2
  · exact okT_128_136 M q h2 n1 n2
theorem okT_136_143 (M : Nat) (h1 : 136 ≤ M) (h2 : M < 143) (n1 : ¬ M = 1) (n2 : ¬ M = 2) : okA M := by
  rcases (show M = 136 ∨ M = 137 ∨ M = 138 ∨ M = 139 ∨ M = 140 ∨ M = 141 ∨ M = 142 by omega) with rfl | rfl | rfl | rfl | rfl | rfl | rfl
  · exact okA_136
  · exact okA_137
  · exact okA_138
  · exact okA_139
  · exact okA_140
  · exact okA_141
  · exact okA_142
theorem okT_143_151 (M : Nat) (h1 : 143 ≤ M) (h2 : M < 151) (n1 : ¬ M = 1) (n2 : ¬ M = 2) : okA M := by
  rcases (show M = 143 ∨ M = 144 ∨ M = 145 ∨ M = 146 ∨ M = 147 ∨ M = 148 ∨ M = 149 ∨ M = 150 by omega) with rfl | rfl | rfl | rfl | rfl | rfl | rfl | rfl
  · exact okA_143
  · exact okA_144
  · exact okA_145
  · exact okA_146
  · exact okA_147
  · exact okA_148
  · exact okA_149
  · exact okA_150
theorem okT_136_151 (M : Nat) (h1 : 136 ≤ M) (h2 : M < 151) (n1 : ¬ M = 1) (n2 : ¬ M = 2) : okA M := by
  rcases Nat.lt_or_ge M 143 with q | q
  · exact okT_136_143 M h1 q n1 n2
  · exact okT_143_151 M q h2 n1 n2
theorem okT_121_151 (M : Nat) (h1 : 121 ≤ M) (h2 : M < 151) (n1 : ¬ M = 1) (n2 : ¬ M = 2) : okA M := by
  rcases Nat.lt_or_ge M 136 with q | q
  · exact okT_121_136 M h1 q n1 n2
  · exact okT_136_151 M q h2 n1 n2
theorem okT_151_158 (M : Nat) (h1 : 151 ≤ M) (h2 : M < 158) (n1 : ¬ M = 1) (n2 : ¬ M = 2) : okA M := by
  rcases (show M = 151 ∨ M = 152 ∨ M = 153 ∨ M = 154 ∨ M = 155 ∨ M = 156 ∨ M = 157 by omega) with rfl | rfl | rfl | rfl | rfl | rfl | rfl
  · exact okA_151
  · exact okA_152
  · exact okA_153
  · exact okA_154
  · exact okA_155
  · exact okA_156
  · exact okA_157
theorem okT_158_166 (M : Nat) (h1 : 158 ≤ M) (h2 : M < 166) (n1 : ¬ M = 1) (n2 : ¬ M = 2) : okA M := by
  rcases (show M = 158 ∨ M = 159 ∨ M = 160 ∨ M = 161 ∨ M = 162 ∨ M = 163 ∨ M = 164 ∨ M = 165 by omega) with rfl | rfl | rfl | rfl | rfl | rfl | rfl | rfl
  · exact okA_158
  · exact okA_159
  · exact okA_160
  · exact okA_161
  · exact okA_162
  · exact okA_163
  · exact okA_164
  · exact okA_165
theorem okT_151_166 (M : Nat) (h1 : 151 ≤ M) (h2 : M < 166) (n1 : ¬ M = 1) (n2 : ¬ M = 2) : okA M := by
  rcases Nat.lt_or_ge M 158 with q | q
  · exact okT_151_158 M h1 q n1 n2
  · exact okT_158_166 M q h2 n1 n2
theorem okT_166_174 (M : Nat) (h1 : 166 ≤ M) (h2 : M < 174) (n1 : ¬ M = 1) (n2 : ¬ M = 2) : okA M := by
  rcases (show M = 166 ∨ M = 167 ∨ M = 168 ∨ M = 169 ∨ M = 170 ∨ M = 171 ∨ M = 172 ∨ M = 173 by omega) with rfl | rfl | rfl | rfl | rfl | rfl | rfl | rfl
  · exact okA_166
  · exact okA_167
  · exact okA_168
  · exact okA_169
  · exact okA_170
  · exact okA_171
  · exact okA_172
  · exact okA_173
theorem okT_174_182 (M : Nat) (h1 : 174 ≤ M) (h2 : M < 182) (n1 : ¬ M = 1) (n2 : ¬ M = 2) : okA M := by
  rcases (show M = 174 ∨ M = 175 ∨ M = 176 ∨ M = 177 ∨ M = 178 ∨ M = 179 ∨ M = 180 ∨ M = 181 by omega) with rfl | rfl | rfl | rfl | rfl | rfl | rfl | rfl
  · exact okA_174
  · exact okA_175
  · exact okA_176
  · exact okA_177
  · exact okA_178
  · exact okA_179
  · exact okA_180
  · exact okA_181
theorem okT_166_182 (M : Nat) (h1 : 166 ≤ M) (h2 : M < 182) (n1 : ¬ M = 1) (n2 : ¬ M = 2) : okA M := by
  rcases Nat.lt_or_ge M 174 with q | q
  · exact okT_166_174 M h1 q n1 n2
  · exact okT_174_182 M q h2 n1 n2
theorem okT_151_182 (M : Nat) (h1 : 151 ≤ M) (h2 : M < 182) (n1 : ¬ M = 1) (n2 : ¬ M = 2) : okA M := by
  rcases Nat.lt_or_ge M 166 with q | q
  · exact okT_151_166 M h1 q n1 n2
  · exact okT_166_182 M q h2 n1 n2
theorem okT_121_182 (M : Nat) (h1 : 121 ≤ M) (h2 : M < 182) (n1 : ¬ M = 1) (n2 : ¬ M = 2) : okA M := by
  rcases Nat.lt_or_ge M 151 with q | q
  · exact okT_121_151 M h1 q n1 n2
  · exact okT_151_182 M q h2 n1 n2
theorem okT_182_189 (M : Nat) (h1 : 182 ≤ M) (h2 : M < 189) (n1 : ¬ M = 1) (n2 : ¬ M = 2) : okA M := by
  rcases (show M = 182 ∨ M = 183 ∨ M = 184 ∨ M = 185 ∨ M = 186 ∨ M = 187 ∨ M = 188 by omega) with rfl | rfl | rfl | rfl | rfl | rfl | rfl
  · exact okA_182
  · exact okA_183
  · exact okA_184
  · exact okA_185
  · exact okA_186
  · exact okA_187
  · exact okA_188
theorem okT_189_197 (M : Nat) (h1 : 189 ≤ M) (h2 : M < 197) (n1 : ¬ M = 1) (n2 : ¬ M = 2) : okA M := by
  rcases (show M = 189 ∨ M = 190 ∨ M = 191 ∨ M = 192 ∨ M = 193 ∨ M = 194 ∨ M = 195 ∨ M = 196 by omega) with rfl | rfl | rfl | rfl | rfl | rfl | rfl | rfl
  · exact okA_189
  · exact okA_190
  · exact okA_191
  · exact okA_192
  · exact okA_193
  · exact okA_194
  · exact okA_195
  · exact okA_196
theorem okT_182_197 (M : Nat) (h1 : 182 ≤ M) (h2 : M < 197) (n1 : ¬ M = 1) (n2 : ¬ M = 2) : okA M := by
  rcases Nat.lt_or_ge M 189 with q | q
  · exact okT_182_189 M h1 q n1 n2
  · exact okT_189_197 M q h2 n1 n2
theorem okT_197_204 (M : Nat) (h1 : 197 ≤ M) (h2 : M < 204) (n1 : ¬ M = 1) (n2 : ¬ M = 2) : okA M := by
  rcases (show M = 197 ∨ M = 198 ∨ M = 199 ∨ M = 200 ∨ M = 201 ∨ M = 202 ∨ M = 203 by omega) with rfl | rfl | rfl | rfl | rfl | rfl | rfl
  · exact okA_197
  · exact okA_198
  · exact okA_199
  · exact okA_200
  · exact okA_201
  · exact okA_202
  · exact okA_203
theorem okT_204_212 (M : Nat) (h1 : 204 ≤ M) (h2 : M < 212) (n1 : ¬ M = 1) (n2 : ¬ M = 2) : okA M := by
  rcases (show M = 204 ∨ M = 205 ∨ M = 206 ∨ M = 207 ∨ M = 208 ∨ M = 209 ∨ M = 210 ∨ M = 211 by omega) with rfl | rfl | rfl | rfl | rfl | rfl | rfl | rfl
  · exact okA_204
  · exact okA_205
  · exact okA_206
  · exact okA_207
  · exact okA_208
  · exact okA_209
  · exact okA_210
  · exact okA_211
theorem okT_197_212 (M : Nat) (h1 : 197 ≤ M) (h2 : M < 212) (n1 : ¬ M = 1) (n2 : ¬ M = 2) : okA M := by
  rcases Nat.lt_or_ge M 204 with q | q
  · exact okT_197_204 M h1 q n1 n2
  · exact okT_204_212 M q h2 n1 n2
theorem okT_182_212 (M : Nat) (h1 : 182 ≤ M) (h2 : M < 212) (n1 : ¬ M = 1) (n2 : ¬ M = 2) : okA M := by
  rcases Nat.lt_or_ge M 197 with q | q
  · exact okT_182_197 M h1 q n1 n2
  · exact okT_197_212 M q h2 n1 n2
theorem okT_212_219 (M : Nat) (h1 : 212 ≤ M) (h2 : M < 219) (n1 : ¬ M = 1) (n2 : ¬ M = 2) : okA M := by
  rcases (show M = 212 ∨ M = 213 ∨ M = 214 ∨ M = 215 ∨ M = 216 ∨ M = 217 ∨ M = 218 by omega) with rfl | rfl | rfl | rfl | rfl | rfl | rfl
  · exact okA_212
  · exact okA_213
  · exact okA_214
  · exact okA_215
  · exact okA_216
  · exact okA_217
  · exact okA_218
theorem okT_219_227 (M : Nat) (h1 : 219 ≤ M) (h2 : M < 227) (n1 : ¬ M = 1) (n2 : ¬ M = 2) : okA M := by
  rcases (show M = 219 ∨ M = 220 ∨ M = 221 ∨ M = 222 ∨ M = 223 ∨ M = 224 ∨ M = 225 ∨ M = 226 by omega) with rfl | rfl | rfl | rfl | rfl | rfl | rfl | rfl
  · exact okA_219
  · exact okA_220
  · exact okA_221
  · exact okA_222
  · exact okA_223
  · exact okA_224
  · exact okA_225
  · exact okA_226
theorem okT_212_227 (M : Nat) (h1 : 212 ≤ M) (h2 : M < 227) (n1 : ¬ M = 1) (n2 : ¬ M = 2) : okA M := by
  rcases Nat.lt_or_ge M 219 with q | q
  · exact okT_212_219 M h1 q n1 n2
  · exact okT_219_227 M q h2 n1 n2
theorem okT_227_235 (M : Nat) (h1 : 227 ≤ M) (h2 : M < 235) (n1 : ¬ M = 1) (n2 : ¬ M = 2) : okA M := by
  rcases (show M = 227 ∨ M = 228 ∨ M = 229 ∨ M = 230 ∨ M = 231 ∨ M = 232 ∨ M = 233 ∨ M = 234 by omega) with rfl | rfl | rfl | rfl | rfl | rfl | rfl | rfl
  · exact okA_227
  · exact okA_228
  · exact okA_229
  · exact okA_230
  · exact okA_231
  · exact okA_232
  · exact okA_233
  · exact okA_234
theorem okT_235_243 (M : Nat) (h1 : 235 ≤ M) (h2 : M < 243) (n1 : ¬ M = 1) (n2 : ¬ M = 2) : okA M := by
  rcases (show M = 235 ∨ M = 236 ∨ M = 237 ∨ M = 238 ∨ M = 239 ∨ M = 240 ∨ M = 241 ∨ M = 242 by omega) with rfl | rfl | rfl | rfl | rfl | rfl | rfl | rfl
  · exact okA_235
  · exact okA_236
  · exact okA_237
  · exact okA_238
  · exact okA_239
  · exact okA_240
  · exact okA_241
  · exact okA_242
theorem okT_227_243 (M : Nat) (h1 : 227 ≤ M) (h2 : M < 243) (n1 : ¬ M = 1) (n2 : ¬ M = 2) : okA M := by
  rcases Nat.lt_or_ge M 235 with q | q
  · exact okT_227_235 M h1 q n1 n2
  · exact okT_235_243 M q h2 n1 n2
theorem okT_212_243 (M : Nat) (h1 : 212 ≤ M) (h2 : M < 243) (n1 : ¬ M = 1) (n2 : ¬ M = 2) : okA M := by
  rcases Nat.lt_or_ge M 227 with q | q
  · exact okT_212_227 M h1 q n1 n2
  · exact okT_227_243 M q h2 n1 n2
theorem okT_182_243 (M : Nat) (h1 : 182 ≤ M) (h2 : M < 243) (n1 : ¬ M = 1) (n2 : ¬ M = 2) : okA M := by
  rcases Nat.lt_or_ge M 212 with q | q
  · exact okT_182_212 M h1 q n1 n2
  · exact okT_212_243 M q h2 n1 n2
theorem okT_121_243 (M : Nat) (h1 : 121 ≤ M) (h2 : M < 243) (n1 : ¬ M = 1) (n2 : ¬ M = 2) : okA M := by
  rcases Nat.lt_or_ge M 182 with q | q
  · exact okT_121_182 M h1 q n1 n2
  · exact okT_182_243 M q h2 n1 n2
theorem okT_0_243 (M : Nat) (h1 : 0 ≤ M) (h2 : M < 243) (n1 : ¬ M = 1) (n2 : ¬ M = 2) : okA M := by
  rcases Nat.lt_or_ge M 121 with q | q
  · exact okT_0_121 M h1 q n1 n2
  · exact okT_121_243 M q h2 n1 n2
theorem okAll (M : Nat) (h : M < 243) (n1 : ¬ M = 1) (n2 : ¬ M = 2) : okA M := okT_0_243 M (Nat.zero_le M) h n1 n2
theorem wide_use : True := by
  have := @Jvm.Stand.multianewarray2F
  trivial
