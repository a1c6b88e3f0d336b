/-! What always holds between the class and the reference; that each call answers alike and keeps it. -/
def InvT : Iv := fun ρ σ => ρ = r809 ∧ σ = s809
theorem inv_startT : InvT r809 s809 := ⟨rfl, rfl⟩
theorem all_ops (l : Launch) (X : Cx) (h : xLn X ≤ 3072) : AllOps l X InvT := by
  sorry
