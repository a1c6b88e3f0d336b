/-! The long methods, piece by piece. -/
def ckR (i a b : Nat) : Bool := (List.range (b - a)).all (fun k => ckOp i (a + k))
theorem ckR_of {i a b : Nat} (h : ckR i a b = true) {pc : Nat} (h1 : a ≤ pc) (h2 : pc < b) : ckOp i pc = true := by
  have := List.all_eq_true.mp h (pc - a) (List.mem_range.mpr (by omega))
  rwa [Nat.add_sub_cancel' h1] at this
theorem cb_162_0 : ckR 162 0 358 = true := by decide +kernel
theorem cb_162_1 : ckR 162 358 506 = true := by decide +kernel
theorem cb_162_2 : ckR 162 506 620 = true := by decide +kernel
theorem cb_162_3 : ckR 162 620 716 = true := by decide +kernel
theorem cb_162_4 : ckR 162 716 801 = true := by decide +kernel
theorem cb_162_5 : ckR 162 801 878 = true := by decide +kernel
theorem cb_162_6 : ckR 162 878 949 = true := by decide +kernel
theorem cb_162_7 : ckR 162 949 1015 = true := by decide +kernel
theorem cb_162_8 : ckR 162 1015 1077 = true := by decide +kernel
theorem cb_162_9 : ckR 162 1077 1135 = true := by decide +kernel
theorem cb_162_10 : ckR 162 1135 1191 = true := by decide +kernel
theorem cb_162_11 : ckR 162 1191 1244 = true := by decide +kernel
theorem cb_162_12 : ckR 162 1244 1295 = true := by decide +kernel
theorem cb_162_13 : ckR 162 1295 1344 = true := by decide +kernel
theorem cb_162_14 : ckR 162 1344 1391 = true := by decide +kernel
theorem cb_162_15 : ckR 162 1391 1437 = true := by decide +kernel
theorem cb_162_16 : ckR 162 1437 1481 = true := by decide +kernel
theorem cb_162_17 : ckR 162 1481 1524 = true := by decide +kernel
theorem cb_162_18 : ckR 162 1524 1566 = true := by decide +kernel
theorem cb_162_19 : ckR 162 1566 1607 = true := by decide +kernel
theorem cb_162_20 : ckR 162 1607 1647 = true := by decide +kernel
theorem cb_162_21 : ckR 162 1647 1686 = true := by decide +kernel
theorem cb_162_22 : ckR 162 1686 1714 = true := by decide +kernel
theorem cM_162 : ckM 162 = true := by
  refine List.all_eq_true.mpr (fun pc hp => ?_)
  have hp : pc < 1714 := List.mem_range.mp hp
  by_cases h0 : pc < 358
  · exact ckR_of cb_162_0 (by omega) (by omega)
  by_cases h1 : pc < 506
  · exact ckR_of cb_162_1 (by omega) (by omega)
  by_cases h2 : pc < 620
  · exact ckR_of cb_162_2 (by omega) (by omega)
  by_cases h3 : pc < 716
  · exact ckR_of cb_162_3 (by omega) (by omega)
  by_cases h4 : pc < 801
  · exact ckR_of cb_162_4 (by omega) (by omega)
  by_cases h5 : pc < 878
  · exact ckR_of cb_162_5 (by omega) (by omega)
  by_cases h6 : pc < 949
  · exact ckR_of cb_162_6 (by omega) (by omega)
  by_cases h7 : pc < 1015
  · exact ckR_of cb_162_7 (by omega) (by omega)
  by_cases h8 : pc < 1077
  · exact ckR_of cb_162_8 (by omega) (by omega)
  by_cases h9 : pc < 1135
  · exact ckR_of cb_162_9 (by omega) (by omega)
  by_cases h10 : pc < 1191
  · exact ckR_of cb_162_10 (by omega) (by omega)
  by_cases h11 : pc < 1244
  · exact ckR_of cb_162_11 (by omega) (by omega)
  by_cases h12 : pc < 1295
  · exact ckR_of cb_162_12 (by omega) (by omega)
  by_cases h13 : pc < 1344
  · exact ckR_of cb_162_13 (by omega) (by omega)
  by_cases h14 : pc < 1391
  · exact ckR_of cb_162_14 (by omega) (by omega)
  by_cases h15 : pc < 1437
  · exact ckR_of cb_162_15 (by omega) (by omega)
  by_cases h16 : pc < 1481
  · exact ckR_of cb_162_16 (by omega) (by omega)
  by_cases h17 : pc < 1524
  · exact ckR_of cb_162_17 (by omega) (by omega)
  by_cases h18 : pc < 1566
  · exact ckR_of cb_162_18 (by omega) (by omega)
  by_cases h19 : pc < 1607
  · exact ckR_of cb_162_19 (by omega) (by omega)
  by_cases h20 : pc < 1647
  · exact ckR_of cb_162_20 (by omega) (by omega)
  by_cases h21 : pc < 1686
  · exact ckR_of cb_162_21 (by omega) (by omega)
  · exact ckR_of cb_162_22 (by omega) (by omega)
theorem cb_298_0 : ckR 298 0 358 = true := by decide +kernel
theorem cb_298_1 : ckR 298 358 506 = true := by decide +kernel
theorem cb_298_2 : ckR 298 506 620 = true := by decide +kernel
theorem cb_298_3 : ckR 298 620 716 = true := by decide +kernel
theorem cb_298_4 : ckR 298 716 801 = true := by decide +kernel
theorem cb_298_5 : ckR 298 801 878 = true := by decide +kernel
theorem cb_298_6 : ckR 298 878 949 = true := by decide +kernel
theorem cb_298_7 : ckR 298 949 1015 = true := by decide +kernel
theorem cb_298_8 : ckR 298 1015 1077 = true := by decide +kernel
theorem cb_298_9 : ckR 298 1077 1135 = true := by decide +kernel
theorem cb_298_10 : ckR 298 1135 1191 = true := by decide +kernel
theorem cb_298_11 : ckR 298 1191 1192 = true := by decide +kernel
theorem cM_298 : ckM 298 = true := by
  refine List.all_eq_true.mpr (fun pc hp => ?_)
  have hp : pc < 1192 := List.mem_range.mp hp
  by_cases h0 : pc < 358
  · exact ckR_of cb_298_0 (by omega) (by omega)
  by_cases h1 : pc < 506
  · exact ckR_of cb_298_1 (by omega) (by omega)
  by_cases h2 : pc < 620
  · exact ckR_of cb_298_2 (by omega) (by omega)
  by_cases h3 : pc < 716
  · exact ckR_of cb_298_3 (by omega) (by omega)
  by_cases h4 : pc < 801
  · exact ckR_of cb_298_4 (by omega) (by omega)
  by_cases h5 : pc < 878
  · exact ckR_of cb_298_5 (by omega) (by omega)
  by_cases h6 : pc < 949
  · exact ckR_of cb_298_6 (by omega) (by omega)
  by_cases h7 : pc < 1015
  · exact ckR_of cb_298_7 (by omega) (by omega)
  by_cases h8 : pc < 1077
  · exact ckR_of cb_298_8 (by omega) (by omega)
  by_cases h9 : pc < 1135
  · exact ckR_of cb_298_9 (by omega) (by omega)
  by_cases h10 : pc < 1191
  · exact ckR_of cb_298_10 (by omega) (by omega)
  · exact ckR_of cb_298_11 (by omega) (by omega)
