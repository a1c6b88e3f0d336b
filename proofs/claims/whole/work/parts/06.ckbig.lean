/-! The two long methods, piece by piece. -/
def ckR (i a b : Nat) : Bool := (List.range (b - a)).all (fun k => ckOp i (a + k))
theorem ckR_of {i a b : Nat} (h : ckR i a b = true) {pc : Nat} (h1 : a ≤ pc) (h2 : pc < b) : ckOp i pc = true := by
  have := List.all_eq_true.mp h (pc - a) (List.mem_range.mpr (by omega))
  rwa [Nat.add_sub_cancel' h1] at this
theorem cb_169_0 : ckR 169 0 357 = true := by decide +kernel
theorem cb_169_1 : ckR 169 357 509 = true := by decide +kernel
theorem cb_169_2 : ckR 169 509 626 = true := by decide +kernel
theorem cb_169_3 : ckR 169 626 725 = true := by decide +kernel
theorem cb_169_4 : ckR 169 725 816 = true := by decide +kernel
theorem cb_169_5 : ckR 169 816 900 = true := by decide +kernel
theorem cb_169_6 : ckR 169 900 1004 = true := by decide +kernel
theorem cb_169_7 : ckR 169 1004 1068 = true := by decide +kernel
theorem cb_169_8 : ckR 169 1068 1127 = true := by decide +kernel
theorem cb_169_9 : ckR 169 1127 1183 = true := by decide +kernel
theorem cb_169_10 : ckR 169 1183 1239 = true := by decide +kernel
theorem cb_169_11 : ckR 169 1239 1294 = true := by decide +kernel
theorem cb_169_12 : ckR 169 1294 1344 = true := by decide +kernel
theorem cb_169_13 : ckR 169 1344 1391 = true := by decide +kernel
theorem cb_169_14 : ckR 169 1391 1439 = true := by decide +kernel
theorem cb_169_15 : ckR 169 1439 1482 = true := by decide +kernel
theorem cb_169_16 : ckR 169 1482 1528 = true := by decide +kernel
theorem cb_169_17 : ckR 169 1528 1572 = true := by decide +kernel
theorem cb_169_18 : ckR 169 1572 1615 = true := by decide +kernel
theorem cb_169_19 : ckR 169 1615 1655 = true := by decide +kernel
theorem cb_169_20 : ckR 169 1655 1705 = true := by decide +kernel
theorem cb_169_21 : ckR 169 1705 1714 = true := by decide +kernel
theorem cM_169 : ckM 169 = true := by
  refine List.all_eq_true.mpr (fun pc hp => ?_)
  have hp : pc < 1714 := List.mem_range.mp hp
  by_cases h0 : pc < 357
  · exact ckR_of cb_169_0 (by omega) (by omega)
  by_cases h1 : pc < 509
  · exact ckR_of cb_169_1 (by omega) (by omega)
  by_cases h2 : pc < 626
  · exact ckR_of cb_169_2 (by omega) (by omega)
  by_cases h3 : pc < 725
  · exact ckR_of cb_169_3 (by omega) (by omega)
  by_cases h4 : pc < 816
  · exact ckR_of cb_169_4 (by omega) (by omega)
  by_cases h5 : pc < 900
  · exact ckR_of cb_169_5 (by omega) (by omega)
  by_cases h6 : pc < 1004
  · exact ckR_of cb_169_6 (by omega) (by omega)
  by_cases h7 : pc < 1068
  · exact ckR_of cb_169_7 (by omega) (by omega)
  by_cases h8 : pc < 1127
  · exact ckR_of cb_169_8 (by omega) (by omega)
  by_cases h9 : pc < 1183
  · exact ckR_of cb_169_9 (by omega) (by omega)
  by_cases h10 : pc < 1239
  · exact ckR_of cb_169_10 (by omega) (by omega)
  by_cases h11 : pc < 1294
  · exact ckR_of cb_169_11 (by omega) (by omega)
  by_cases h12 : pc < 1344
  · exact ckR_of cb_169_12 (by omega) (by omega)
  by_cases h13 : pc < 1391
  · exact ckR_of cb_169_13 (by omega) (by omega)
  by_cases h14 : pc < 1439
  · exact ckR_of cb_169_14 (by omega) (by omega)
  by_cases h15 : pc < 1482
  · exact ckR_of cb_169_15 (by omega) (by omega)
  by_cases h16 : pc < 1528
  · exact ckR_of cb_169_16 (by omega) (by omega)
  by_cases h17 : pc < 1572
  · exact ckR_of cb_169_17 (by omega) (by omega)
  by_cases h18 : pc < 1615
  · exact ckR_of cb_169_18 (by omega) (by omega)
  by_cases h19 : pc < 1655
  · exact ckR_of cb_169_19 (by omega) (by omega)
  by_cases h20 : pc < 1705
  · exact ckR_of cb_169_20 (by omega) (by omega)
  · exact ckR_of cb_169_21 (by omega) (by omega)
theorem cb_305_0 : ckR 305 0 392 = true := by decide +kernel
theorem cb_305_1 : ckR 305 392 523 = true := by decide +kernel
theorem cb_305_2 : ckR 305 523 626 = true := by decide +kernel
theorem cb_305_3 : ckR 305 626 715 = true := by decide +kernel
theorem cb_305_4 : ckR 305 715 794 = true := by decide +kernel
theorem cb_305_5 : ckR 305 794 875 = true := by decide +kernel
theorem cb_305_6 : ckR 305 875 941 = true := by decide +kernel
theorem cb_305_7 : ckR 305 941 1000 = true := by decide +kernel
theorem cb_305_8 : ckR 305 1000 1066 = true := by decide +kernel
theorem cb_305_9 : ckR 305 1066 1135 = true := by decide +kernel
theorem cb_305_10 : ckR 305 1135 1192 = true := by decide +kernel
theorem cM_305 : ckM 305 = true := by
  refine List.all_eq_true.mpr (fun pc hp => ?_)
  have hp : pc < 1192 := List.mem_range.mp hp
  by_cases h0 : pc < 392
  · exact ckR_of cb_305_0 (by omega) (by omega)
  by_cases h1 : pc < 523
  · exact ckR_of cb_305_1 (by omega) (by omega)
  by_cases h2 : pc < 626
  · exact ckR_of cb_305_2 (by omega) (by omega)
  by_cases h3 : pc < 715
  · exact ckR_of cb_305_3 (by omega) (by omega)
  by_cases h4 : pc < 794
  · exact ckR_of cb_305_4 (by omega) (by omega)
  by_cases h5 : pc < 875
  · exact ckR_of cb_305_5 (by omega) (by omega)
  by_cases h6 : pc < 941
  · exact ckR_of cb_305_6 (by omega) (by omega)
  by_cases h7 : pc < 1000
  · exact ckR_of cb_305_7 (by omega) (by omega)
  by_cases h8 : pc < 1066
  · exact ckR_of cb_305_8 (by omega) (by omega)
  by_cases h9 : pc < 1135
  · exact ckR_of cb_305_9 (by omega) (by omega)
  · exact ckR_of cb_305_10 (by omega) (by omega)
