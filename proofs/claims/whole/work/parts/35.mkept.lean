/-! By which strength he keeps, untold. -/
theorem kp_unt (see : Nat → Int) : evF see (unt 1) = two 37 (two 36 20 (two 38 (see 2) 5)) (see 1) := rfl
theorem kp_val {w d : Nat} (hw : w ≤ 9) (hd : d ≤ 9) : two 37 (two 36 20 (two 38 ((w : Nat) : Int) 5)) ((d : Nat) : Int) = 20 + 5 * (w : Int) - (d : Int) := by
  rw [two37, two36, two38, clip_id (z := (w : Int) * 5) ⟨by omega, by omega⟩, clip_id (z := 20 + (w : Int) * 5) ⟨by omega, by omega⟩, clip_id ⟨by omega, by omega⟩]
  omega
