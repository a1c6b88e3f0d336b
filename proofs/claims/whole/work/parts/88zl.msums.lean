/-! A formula read by the reference: sums. -/
theorem stA_2 (U : Tx) (k : Nat) (y : Ys) : (stA U k y).1 ≠ 2 := by
  unfold stA stM
  split
  · exact (by decide : (0 : Nat) ≠ 2)
  · split
    · exact (by decide : (0 : Nat) ≠ 2)
    · split
      · exact (by decide : (0 : Nat) ≠ 2)
      · split
        · exact (by decide : (0 : Nat) ≠ 2)
        · split
          · exact (by decide : (1 : Nat) ≠ 2)
          · exact (by decide : (1 : Nat) ≠ 2)
theorem flA_no (w k : Nat) (s : Rdg) : isOk (flA w k s) = false := by cases s <;> rfl
theorem stB_2 (U : Tx) (y : Ys) (h : (stB U y).1 = 2) (ho : isOk (stB U y).2.1 = true) : brk (stB U y).2.2.2.1 = 0 := by
  unfold stB at h ho ⊢
  split at h
  · exact absurd (show (1 : Nat) = 2 from h) (by decide)
  · rename_i g1
    rw [if_neg g1] at ho ⊢
    split at h
    · exact absurd (show (0 : Nat) = 2 from h) (by decide)
    · rename_i g2
      rw [if_neg g2] at ho ⊢
      split at h
      · exact absurd (show (0 : Nat) = 2 from h) (by decide)
      · rename_i g3
        rw [if_neg g3] at ho ⊢
        split at h
        · rename_i g4
          rw [if_pos g4] at ho ⊢
          split at h
          · exact absurd (show (0 : Nat) = 2 from h) (by decide)
          · rename_i g5
            rw [if_neg g5] at ho
            rw [show isOk (flA 1 0 (skM U y.1)) = false from flA_no _ _ _] at ho
            cases ho
        · rename_i g4
          rw [if_neg g4] at ho ⊢
          by_cases g5 : brk y.2.2.1 = 0
          · rw [if_pos g5]; exact g5
          · rw [if_neg g5] at ho
            rw [show isOk (flA 1 0 (skM U y.1)) = false from flA_no _ _ _] at ho
            cases ho
/-- where it ends well, nothing is open -/
theorem runY_b {U : Tx} {k : Nat} : ∀ (f c : Nat) (y r : Ys), runY U k f (c, y) = some r → (c = 2 → isOk y.1 = true → brk y.2.2.1 = 0) → isOk r.1 = true → brk r.2.2.1 = 0 := by
  intro f
  induction f with
  | zero => intro c y r h; cases h
  | succ f ih =>
    intro c y r h hc ho
    have h : (if isOk y.1 = false ∨ c = 2 then some y else runY U k f (if c = 0 then stA U k y else stB U y)) = some r := h
    by_cases hs : isOk y.1 = false ∨ c = 2
    · rw [if_pos hs] at h
      cases h
      rcases hs with z | z
      · rw [z] at ho; cases ho
      · exact hc z ho
    · rw [if_neg hs] at h
      by_cases h0 : c = 0
      · rw [if_pos h0] at h
        exact ih (stA U k y).1 (stA U k y).2 r h (fun z => absurd z (stA_2 U k y)) ho
      · rw [if_neg h0] at h
        exact ih (stB U y).1 (stB U y).2 r h (fun z => stB_2 U y z) ho
