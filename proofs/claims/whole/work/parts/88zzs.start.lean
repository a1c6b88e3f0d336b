/-! The beginning: the references stand. -/
theorem blt_f {x n b : Nat} (h : b ≤ x) (hn : n ≤ b) : Nat.blt x n = false := by
  cases hz : Nat.blt x n with
  | false => rfl
  | true => have := Nat.blt_eq.mp hz; omega
theorem beq_f {x n b : Nat} (h : b ≤ x) (hn : n < b) : Nat.beq x n = false := nbeq (by omega)
theorem tb_0 {j : Nat} (h : 128 ≤ j) : t0_0 j = none := by
  unfold t0_0
  rw [blt_f h (by decide : 8 ≤ 128), blt_f h (by decide : 10 ≤ 128), blt_f h (by decide : 11 ≤ 128), blt_f h (by decide : 13 ≤ 128), beq_f h (by decide : 13 < 128)]
  try rfl
theorem tb_2 {j : Nat} (h : 128 ≤ j) : t0_2 j = none := by
  unfold t0_2
  rw [blt_f h (by decide : 5 ≤ 128), blt_f h (by decide : 7 ≤ 128), blt_f h (by decide : 8 ≤ 128), blt_f h (by decide : 9 ≤ 128), beq_f h (by decide : 9 < 128)]
  try rfl
theorem tb_12 {j : Nat} (h : 128 ≤ j) : t0_12 j = none := by
  unfold t0_12
  rw [blt_f h (by decide : 2 ≤ 128), blt_f h (by decide : 3 ≤ 128), beq_f h (by decide : 3 < 128)]
  try rfl
theorem tb_17 {j : Nat} (h : 128 ≤ j) : t0_17 j = none := by
  unfold t0_17
  rw [blt_f h (by decide : 5 ≤ 128), blt_f h (by decide : 7 ≤ 128), blt_f h (by decide : 8 ≤ 128), blt_f h (by decide : 9 ≤ 128), beq_f h (by decide : 9 < 128)]
  try rfl
theorem tb_27 {j : Nat} (h : 128 ≤ j) : t0_27 j = none := by
  unfold t0_27
  rw [blt_f h (by decide : 2 ≤ 128), blt_f h (by decide : 3 ≤ 128), beq_f h (by decide : 3 < 128)]
  try rfl
theorem tb_32 {j : Nat} (h : 128 ≤ j) : t0_32 j = none := by
  unfold t0_32
  rw [blt_f h (by decide : 4 ≤ 128), blt_f h (by decide : 5 ≤ 128), beq_f h (by decide : 5 < 128)]
  try rfl
theorem tb_33 {j : Nat} (h : 128 ≤ j) : t0_33 j = none := by
  unfold t0_33
  rw [blt_f h (by decide : 3 ≤ 128), blt_f h (by decide : 4 ≤ 128), blt_f h (by decide : 5 ≤ 128), beq_f h (by decide : 5 < 128)]
  try rfl
theorem tb_43 {j : Nat} (h : 128 ≤ j) : t0_43 j = none := by
  unfold t0_43
  rw [beq_f h (by decide : 0 < 128)]
  try rfl
theorem tb_44 {j : Nat} (h : 128 ≤ j) : t0_44 j = none := by
  unfold t0_44
  rw [blt_f h (by decide : 10 ≤ 128), blt_f h (by decide : 15 ≤ 128), blt_f h (by decide : 17 ≤ 128), blt_f h (by decide : 18 ≤ 128), blt_f h (by decide : 19 ≤ 128), beq_f h (by decide : 19 < 128)]
  try rfl
theorem tb_45 {j : Nat} (h : 128 ≤ j) : t0_45 j = none := by
  unfold t0_45
  rw [blt_f h (by decide : 4 ≤ 128), blt_f h (by decide : 5 ≤ 128), beq_f h (by decide : 5 < 128)]
  try rfl
theorem tb_46 {j : Nat} (h : 128 ≤ j) : t0_46 j = none := by
  unfold t0_46
  rw [blt_f h (by decide : 3 ≤ 128), blt_f h (by decide : 4 ≤ 128), blt_f h (by decide : 5 ≤ 128), beq_f h (by decide : 5 < 128)]
  try rfl
theorem tb_56 {j : Nat} (h : 128 ≤ j) : t0_56 j = none := by
  unfold t0_56
  rw [blt_f h (by decide : 4 ≤ 128), blt_f h (by decide : 5 ≤ 128), beq_f h (by decide : 5 < 128)]
  try rfl
theorem tb_57 {j : Nat} (h : 128 ≤ j) : t0_57 j = none := by
  unfold t0_57
  rw [blt_f h (by decide : 3 ≤ 128), blt_f h (by decide : 4 ≤ 128), blt_f h (by decide : 5 ≤ 128), beq_f h (by decide : 5 < 128)]
  try rfl
theorem tb_67 {j : Nat} (h : 128 ≤ j) : t0_67 j = none := by
  unfold t0_67
  rw [blt_f h (by decide : 4 ≤ 128), blt_f h (by decide : 5 ≤ 128), beq_f h (by decide : 5 < 128)]
  try rfl
theorem tb_68 {j : Nat} (h : 128 ≤ j) : t0_68 j = none := by
  unfold t0_68
  rw [blt_f h (by decide : 3 ≤ 128), blt_f h (by decide : 4 ≤ 128), blt_f h (by decide : 5 ≤ 128), beq_f h (by decide : 5 < 128)]
  try rfl
theorem tb_78 {j : Nat} (h : 128 ≤ j) : t0_78 j = none := by
  unfold t0_78
  rw [blt_f h (by decide : 4 ≤ 128), blt_f h (by decide : 5 ≤ 128), beq_f h (by decide : 5 < 128)]
  try rfl
theorem tb_79 {j : Nat} (h : 128 ≤ j) : t0_79 j = none := by
  unfold t0_79
  rw [blt_f h (by decide : 3 ≤ 128), blt_f h (by decide : 4 ≤ 128), blt_f h (by decide : 5 ≤ 128), beq_f h (by decide : 5 < 128)]
  try rfl
theorem tb_89 {j : Nat} (h : 128 ≤ j) : t0_89 j = none := by
  unfold t0_89
  rw [blt_f h (by decide : 4 ≤ 128), blt_f h (by decide : 5 ≤ 128), beq_f h (by decide : 5 < 128)]
  try rfl
theorem tb_90 {j : Nat} (h : 128 ≤ j) : t0_90 j = none := by
  unfold t0_90
  rw [blt_f h (by decide : 3 ≤ 128), blt_f h (by decide : 4 ≤ 128), blt_f h (by decide : 5 ≤ 128), beq_f h (by decide : 5 < 128)]
  try rfl
theorem tb_100 {j : Nat} (h : 128 ≤ j) : t0_100 j = none := by
  unfold t0_100
  rw [blt_f h (by decide : 4 ≤ 128), blt_f h (by decide : 5 ≤ 128), beq_f h (by decide : 5 < 128)]
  try rfl
theorem tb_101 {j : Nat} (h : 128 ≤ j) : t0_101 j = none := by
  unfold t0_101
  rw [blt_f h (by decide : 3 ≤ 128), blt_f h (by decide : 4 ≤ 128), blt_f h (by decide : 5 ≤ 128), beq_f h (by decide : 5 < 128)]
  try rfl
theorem tb_111 {j : Nat} (h : 128 ≤ j) : t0_111 j = none := by
  unfold t0_111
  rw [blt_f h (by decide : 4 ≤ 128), blt_f h (by decide : 5 ≤ 128), beq_f h (by decide : 5 < 128)]
  try rfl
theorem tb_112 {j : Nat} (h : 128 ≤ j) : t0_112 j = none := by
  unfold t0_112
  rw [blt_f h (by decide : 3 ≤ 128), blt_f h (by decide : 4 ≤ 128), blt_f h (by decide : 5 ≤ 128), beq_f h (by decide : 5 < 128)]
  try rfl
theorem tb_122 {j : Nat} (h : 128 ≤ j) : t0_122 j = none := by
  unfold t0_122
  rw [blt_f h (by decide : 4 ≤ 128), blt_f h (by decide : 5 ≤ 128), beq_f h (by decide : 5 < 128)]
  try rfl
theorem tb_123 {j : Nat} (h : 128 ≤ j) : t0_123 j = none := by
  unfold t0_123
  rw [blt_f h (by decide : 3 ≤ 128), blt_f h (by decide : 4 ≤ 128), blt_f h (by decide : 5 ≤ 128), beq_f h (by decide : 5 < 128)]
  try rfl
theorem tb_133 {j : Nat} (h : 128 ≤ j) : t0_133 j = none := by
  unfold t0_133
  rw [blt_f h (by decide : 4 ≤ 128), blt_f h (by decide : 5 ≤ 128), beq_f h (by decide : 5 < 128)]
  try rfl
theorem tb_134 {j : Nat} (h : 128 ≤ j) : t0_134 j = none := by
  unfold t0_134
  rw [blt_f h (by decide : 3 ≤ 128), blt_f h (by decide : 4 ≤ 128), blt_f h (by decide : 5 ≤ 128), beq_f h (by decide : 5 < 128)]
  try rfl
theorem tb_144 {j : Nat} (h : 128 ≤ j) : t0_144 j = none := by
  unfold t0_144
  rw [blt_f h (by decide : 4 ≤ 128), blt_f h (by decide : 5 ≤ 128), beq_f h (by decide : 5 < 128)]
  try rfl
theorem tb_145 {j : Nat} (h : 128 ≤ j) : t0_145 j = none := by
  unfold t0_145
  rw [blt_f h (by decide : 3 ≤ 128), blt_f h (by decide : 4 ≤ 128), blt_f h (by decide : 5 ≤ 128), beq_f h (by decide : 5 < 128)]
  try rfl
theorem tb_155 {j : Nat} (h : 128 ≤ j) : t0_155 j = none := by
  unfold t0_155
  rw [blt_f h (by decide : 4 ≤ 128), blt_f h (by decide : 5 ≤ 128), beq_f h (by decide : 5 < 128)]
  try rfl
theorem tb_156 {j : Nat} (h : 128 ≤ j) : t0_156 j = none := by
  unfold t0_156
  rw [blt_f h (by decide : 3 ≤ 128), blt_f h (by decide : 4 ≤ 128), blt_f h (by decide : 5 ≤ 128), beq_f h (by decide : 5 < 128)]
  try rfl
theorem tb_166 {j : Nat} (h : 128 ≤ j) : t0_166 j = none := by
  unfold t0_166
  rw [blt_f h (by decide : 4 ≤ 128), blt_f h (by decide : 5 ≤ 128), beq_f h (by decide : 5 < 128)]
  try rfl
theorem tb_167 {j : Nat} (h : 128 ≤ j) : t0_167 j = none := by
  unfold t0_167
  rw [blt_f h (by decide : 3 ≤ 128), blt_f h (by decide : 4 ≤ 128), blt_f h (by decide : 5 ≤ 128), beq_f h (by decide : 5 < 128)]
  try rfl
theorem tb_177 {j : Nat} (h : 128 ≤ j) : t0_177 j = none := by
  unfold t0_177
  rw [blt_f h (by decide : 4 ≤ 128), blt_f h (by decide : 5 ≤ 128), beq_f h (by decide : 5 < 128)]
  try rfl
theorem tb_178 {j : Nat} (h : 128 ≤ j) : t0_178 j = none := by
  unfold t0_178
  rw [blt_f h (by decide : 3 ≤ 128), blt_f h (by decide : 4 ≤ 128), blt_f h (by decide : 5 ≤ 128), beq_f h (by decide : 5 < 128)]
  try rfl
theorem tb_188 {j : Nat} (h : 128 ≤ j) : t0_188 j = none := by
  unfold t0_188
  rw [blt_f h (by decide : 4 ≤ 128), blt_f h (by decide : 5 ≤ 128), beq_f h (by decide : 5 < 128)]
  try rfl
theorem tb_189 {j : Nat} (h : 128 ≤ j) : t0_189 j = none := by
  unfold t0_189
  rw [blt_f h (by decide : 3 ≤ 128), blt_f h (by decide : 4 ≤ 128), blt_f h (by decide : 5 ≤ 128), beq_f h (by decide : 5 < 128)]
  try rfl
theorem tb_199 {j : Nat} (h : 128 ≤ j) : t0_199 j = none := by
  unfold t0_199
  rw [blt_f h (by decide : 4 ≤ 128), blt_f h (by decide : 5 ≤ 128), beq_f h (by decide : 5 < 128)]
  try rfl
theorem tb_200 {j : Nat} (h : 128 ≤ j) : t0_200 j = none := by
  unfold t0_200
  rw [blt_f h (by decide : 3 ≤ 128), blt_f h (by decide : 4 ≤ 128), blt_f h (by decide : 5 ≤ 128), beq_f h (by decide : 5 < 128)]
  try rfl
theorem tb_210 {j : Nat} (h : 128 ≤ j) : t0_210 j = none := by
  unfold t0_210
  rw [blt_f h (by decide : 4 ≤ 128), blt_f h (by decide : 5 ≤ 128), beq_f h (by decide : 5 < 128)]
  try rfl
theorem tb_211 {j : Nat} (h : 128 ≤ j) : t0_211 j = none := by
  unfold t0_211
  rw [blt_f h (by decide : 3 ≤ 128), blt_f h (by decide : 4 ≤ 128), blt_f h (by decide : 5 ≤ 128), beq_f h (by decide : 5 < 128)]
  try rfl
theorem tb_221 {j : Nat} (h : 128 ≤ j) : t0_221 j = none := by
  unfold t0_221
  rw [blt_f h (by decide : 4 ≤ 128), blt_f h (by decide : 5 ≤ 128), beq_f h (by decide : 5 < 128)]
  try rfl
theorem tb_222 {j : Nat} (h : 128 ≤ j) : t0_222 j = none := by
  unfold t0_222
  rw [blt_f h (by decide : 3 ≤ 128), blt_f h (by decide : 4 ≤ 128), blt_f h (by decide : 5 ≤ 128), beq_f h (by decide : 5 < 128)]
  try rfl
theorem tb_232 {j : Nat} (h : 128 ≤ j) : t0_232 j = none := by
  unfold t0_232
  rw [blt_f h (by decide : 4 ≤ 128), blt_f h (by decide : 5 ≤ 128), beq_f h (by decide : 5 < 128)]
  try rfl
theorem tb_233 {j : Nat} (h : 128 ≤ j) : t0_233 j = none := by
  unfold t0_233
  rw [blt_f h (by decide : 3 ≤ 128), blt_f h (by decide : 4 ≤ 128), blt_f h (by decide : 5 ≤ 128), beq_f h (by decide : 5 < 128)]
  try rfl
theorem tb_243 {j : Nat} (h : 128 ≤ j) : t0_243 j = none := by
  unfold t0_243
  rw [blt_f h (by decide : 4 ≤ 128), blt_f h (by decide : 5 ≤ 128), beq_f h (by decide : 5 < 128)]
  try rfl
theorem tb_244 {j : Nat} (h : 128 ≤ j) : t0_244 j = none := by
  unfold t0_244
  rw [blt_f h (by decide : 3 ≤ 128), blt_f h (by decide : 4 ≤ 128), blt_f h (by decide : 5 ≤ 128), beq_f h (by decide : 5 < 128)]
  try rfl
theorem tb_254 {j : Nat} (h : 128 ≤ j) : t0_254 j = none := by
  unfold t0_254
  rw [blt_f h (by decide : 4 ≤ 128), blt_f h (by decide : 5 ≤ 128), beq_f h (by decide : 5 < 128)]
  try rfl
theorem tb_255 {j : Nat} (h : 128 ≤ j) : t0_255 j = none := by
  unfold t0_255
  rw [blt_f h (by decide : 3 ≤ 128), blt_f h (by decide : 4 ≤ 128), blt_f h (by decide : 5 ≤ 128), beq_f h (by decide : 5 < 128)]
  try rfl
theorem tb_265 {j : Nat} (h : 128 ≤ j) : t0_265 j = none := by
  unfold t0_265
  rw [beq_f h (by decide : 0 < 128)]
  try rfl
theorem tb_267 {j : Nat} (h : 128 ≤ j) : t0_267 j = none := by
  unfold t0_267
  rw [blt_f h (by decide : 6 ≤ 128), blt_f h (by decide : 9 ≤ 128), blt_f h (by decide : 10 ≤ 128), blt_f h (by decide : 11 ≤ 128), beq_f h (by decide : 11 < 128)]
  try rfl
theorem tb_268 {j : Nat} (h : 128 ≤ j) : t0_268 j = none := by
  unfold t0_268
  rw [blt_f h (by decide : 4 ≤ 128), blt_f h (by decide : 5 ≤ 128), beq_f h (by decide : 5 < 128)]
  try rfl
theorem tb_269 {j : Nat} (h : 128 ≤ j) : t0_269 j = none := by
  unfold t0_269
  rw [blt_f h (by decide : 3 ≤ 128), blt_f h (by decide : 4 ≤ 128), blt_f h (by decide : 5 ≤ 128), beq_f h (by decide : 5 < 128)]
  try rfl
theorem tb_280 {j : Nat} (h : 128 ≤ j) : t0_280 j = none := by
  unfold t0_280
  rw [blt_f h (by decide : 2 ≤ 128), blt_f h (by decide : 3 ≤ 128), blt_f h (by decide : 4 ≤ 128), beq_f h (by decide : 4 < 128)]
  try rfl
theorem tb_288 {j : Nat} (h : 128 ≤ j) : t0_288 j = none := by
  unfold t0_288
  rw [blt_f h (by decide : 3 ≤ 128), blt_f h (by decide : 4 ≤ 128), blt_f h (by decide : 5 ≤ 128), beq_f h (by decide : 5 < 128)]
  try rfl
theorem tb_295 {j : Nat} (h : 128 ≤ j) : t0_295 j = none := by
  unfold t0_295
  rw [blt_f h (by decide : 3 ≤ 128), blt_f h (by decide : 5 ≤ 128), blt_f h (by decide : 6 ≤ 128), beq_f h (by decide : 6 < 128)]
  try rfl
theorem tb_304 {j : Nat} (h : 128 ≤ j) : t0_304 j = none := by
  unfold t0_304
  rw [blt_f h (by decide : 5 ≤ 128), blt_f h (by decide : 7 ≤ 128), blt_f h (by decide : 8 ≤ 128), blt_f h (by decide : 9 ≤ 128), beq_f h (by decide : 9 < 128)]
  try rfl
theorem tb_316 {j : Nat} (h : 128 ≤ j) : t0_316 j = none := by
  unfold t0_316
  rw [beq_f h (by decide : 0 < 128)]
  try rfl
theorem tb_317 {j : Nat} (h : 128 ≤ j) : t0_317 j = none := by
  unfold t0_317
  rw [blt_f h (by decide : 1 ≤ 128), beq_f h (by decide : 1 < 128)]
  try rfl
theorem tb_318 {j : Nat} (h : 128 ≤ j) : t0_318 j = none := by
  unfold t0_318
  rw [beq_f h (by decide : 0 < 128)]
  try rfl
theorem tb_319 {j : Nat} (h : 128 ≤ j) : t0_319 j = none := by
  unfold t0_319
  rw [blt_f h (by decide : 2 ≤ 128), blt_f h (by decide : 3 ≤ 128), beq_f h (by decide : 3 < 128)]
  try rfl
theorem tb_326 {j : Nat} (h : 128 ≤ j) : t0_326 j = none := by
  unfold t0_326
  rw [blt_f h (by decide : 47 ≤ 128), blt_f h (by decide : 84 ≤ 128), blt_f h (by decide : 93 ≤ 128), blt_f h (by decide : 98 ≤ 128), blt_f h (by decide : 101 ≤ 128), blt_f h (by decide : 105 ≤ 128), blt_f h (by decide : 109 ≤ 128), beq_f h (by decide : 109 < 128)]
  try rfl
theorem tb_k {k j : Nat} (h : 402 ≤ k) : t0 k j = none := by
  unfold t0
  rw [blt_f h (by decide : 166 ≤ 402), blt_f h (by decide : 244 ≤ 402), blt_f h (by decide : 288 ≤ 402), blt_f h (by decide : 317 ≤ 402), blt_f h (by decide : 319 ≤ 402), blt_f h (by decide : 326 ≤ 402), beq_f h (by decide : 326 < 402)]
  try rfl
theorem tb_j {k j : Nat} (h : 128 ≤ j) : t0 k j = none := by
  unfold t0
  simp only [tb_0 h, tb_2 h, tb_12 h, tb_17 h, tb_27 h, tb_32 h, tb_33 h, tb_43 h, tb_44 h, tb_45 h, tb_46 h, tb_56 h, tb_57 h, tb_67 h, tb_68 h, tb_78 h, tb_79 h, tb_89 h, tb_90 h, tb_100 h, tb_101 h, tb_111 h, tb_112 h, tb_122 h, tb_123 h, tb_133 h, tb_134 h, tb_144 h, tb_145 h, tb_155 h, tb_156 h, tb_166 h, tb_167 h, tb_177 h, tb_178 h, tb_188 h, tb_189 h, tb_199 h, tb_200 h, tb_210 h, tb_211 h, tb_221 h, tb_222 h, tb_232 h, tb_233 h, tb_243 h, tb_244 h, tb_254 h, tb_255 h, tb_265 h, tb_267 h, tb_268 h, tb_269 h, tb_280 h, tb_288 h, tb_295 h, tb_304 h, tb_316 h, tb_317 h, tb_318 h, tb_319 h, tb_326 h, Bool.cond_self]
theorem t0_lt {k j q : Nat} (h : t0 k j = some q) : k < 402 ∧ j < 128 := by
  refine ⟨Nat.lt_of_not_le (fun z => ?_), Nat.lt_of_not_le (fun z => ?_)⟩
  · rw [tb_k z] at h; cases h
  · rw [tb_j z] at h; cases h
def r8c (k j : Nat) : Bool := match t0 k j with
  | none => true
  | some q => match r817 k j with
    | none => false
    | some x => Nat.beq x q
theorem r8_all : (List.range 402).all (fun k => (List.range 128).all (fun j => r8c k j)) = true := by decide +kernel
theorem rf_start : RF r817 := by
  intro k j q h
  obtain ⟨h1, h2⟩ := t0_lt h
  have g := List.all_eq_true.mp (List.all_eq_true.mp r8_all k (List.mem_range.mpr h1)) j (List.mem_range.mpr h2)
  unfold r8c at g
  rw [h] at g
  cases hr : r817 k j with
  | none => rw [hr] at g; cases g
  | some x => rw [hr] at g; rw [Nat.eq_of_beq_eq_true g]
