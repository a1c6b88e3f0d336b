/-! A formula read by the reference: sums. -/
theorem stA_2 (U : Tx) (k : Nat) (y : Ys) : (stA U k y).1 ≠ 2 := by
  unfold stA stM
  split
  · exact (by decide : (0 : Nat) ≠ 2)
  · split
    · exact (by decide : (0 : Nat) ≠ 2)
    · split
      · exact (by decide : (0 : Nat) ≠ 2)
      · split
        · exact (by decide : (0 : Nat) ≠ 2)
        · split
          · exact (by decide : (1 : Nat) ≠ 2)
          · exact (by decide : (1 : Nat) ≠ 2)
theorem flA_no (w k : Nat) (s : Rdg) : isOk (flA w k s) = false := by cases s <;> rfl
theorem stB_2 (U : Tx) (y : Ys) (h : (stB U y).1 = 2) (ho : isOk (stB U y).2.1 = true) : brk (stB U y).2.2.2.1 = 0 := by
  unfold stB at h ho ⊢
  split at h
  · exact absurd (show (1 : Nat) = 2 from h) (by decide)
  · rename_i g1
    rw [if_neg g1] at ho ⊢
    split at h
    · exact absurd (show (0 : Nat) = 2 from h) (by decide)
    · rename_i g2
      rw [if_neg g2] at ho ⊢
      split at h
      · exact absurd (show (0 : Nat) = 2 from h) (by decide)
      · rename_i g3
        rw [if_neg g3] at ho ⊢
        split at h
        · rename_i g4
          rw [if_pos g4] at ho ⊢
          split at h
          · exact absurd (show (0 : Nat) = 2 from h) (by decide)
          · rename_i g5
            rw [if_neg g5] at ho
            rw [show isOk (flA 1 0 (skM U y.1)) = false from flA_no _ _ _] at ho
            cases ho
        · rename_i g4
          rw [if_neg g4] at ho ⊢
          by_cases g5 : brk y.2.2.1 = 0
          · rw [if_pos g5]; exact g5
          · rw [if_neg g5] at ho
            rw [show isOk (flA 1 0 (skM U y.1)) = false from flA_no _ _ _] at ho
            cases ho
/-- where it ends well, nothing is open -/
theorem runY_b {U : Tx} {k : Nat} : ∀ (f c : Nat) (y r : Ys), runY U k f (c, y) = some r → (c = 2 → isOk y.1 = true → brk y.2.2.1 = 0) → isOk r.1 = true → brk r.2.2.1 = 0 := by
  intro f
  induction f with
  | zero => intro c y r h; cases h
  | succ f ih =>
    intro c y r h hc ho
    have h : (if isOk y.1 = false ∨ c = 2 then some y else runY U k f (if c = 0 then stA U k y else stB U y)) = some r := h
    by_cases hs : isOk y.1 = false ∨ c = 2
    · rw [if_pos hs] at h
      cases h
      rcases hs with z | z
      · rw [z] at ho; cases ho
      · exact hc z ho
    · rw [if_neg hs] at h
      by_cases h0 : c = 0
      · rw [if_pos h0] at h
        exact ih (stA U k y).1 (stA U k y).2 r h (fun z => absurd z (stA_2 U k y)) ho
      · rw [if_neg h0] at h
        exact ih (stB U y).1 (stB U y).2 r h (fun z => stB_2 U y z) ho
theorem brk_0 : ∀ w, okS w → brk w = 0 → ∀ e, e ∈ w → ec e = mc e := by
  intro w
  induction w with
  | nil => intro _ _ e h; cases h
  | cons x w ih =>
    intro ho hb e he
    obtain ⟨hx, how⟩ := okS_c ho
    cases hp : isBr x with
    | true =>
      rw [(brk_y hp).1] at hb
      rw [hb] at hp
      cases hp
    | false =>
      rw [(brk_n hp).1] at hb
      rcases List.mem_cons.mp he with z | z
      · rw [z]; exact (ec_S x hx).2.2.2.1 hp
      · exact ih how hb e z
section S88zl
variable {l : Launch} {X : Cx} {ρ : Rf} {U : Tx}
/-- what still waits is told -/
theorem m_sumDrop (d : Nat) {v : List Nat} {p : Nat × Nat} (hρ : RF ρ) (L1 L2 : Value) {Q : Po} : ∀ (w out : List Nat) (σ : St), MPc σ out (w ++ v) → MTt σ U (.inr p) → σ.1 326 104 = nI v.length → (∀ e, e ∈ w → ec e = mc e) → out.length + (w ++ v).length < 1700 →
    (∀ σ', MPc σ' (out ++ w) v → MW σ σ' → Ev l X (d + 2) 275 78 [.ref 326, L1, L2] [] 402 402 402 ρ σ' Q) →
    Ev l X (d + 2) 275 53 [.ref 326, L1, L2] [] 402 402 402 ρ σ Q := by
  intro w
  induction w with
  | nil =>
    intro out σ H Ht hb _ hn hQ
    have hl : out.length + v.length < 1700 := hn
    refine Ev_aload rfl rfl rfl ?_
    refine Ev_getI rfl (by first | rfl | assumption) ?_
    refine Ev_norm Ht.bad0 ?_
    refine Ev_if_ne rfl (fun h57 => absurd rfl h57) (fun h57 => ?_)
    refine Ev_aload rfl rfl rfl ?_
    refine Ev_getI rfl (by first | rfl | assumption) ?_
    refine Ev_norm (H.2.2.1 : _ = nI v.length) ?_
    refine Ev_aload rfl rfl rfl ?_
    refine Ev_getI rfl (by first | rfl | assumption) ?_
    refine Ev_norm hb ?_
    refine Ev_icmp_le rfl (fun h68 => ?_) (fun h68 => absurd (nI_le (Nat.le_refl _) (by first | omega | (simp only [List.nil_append]; omega))) h68)
    exact hQ σ (by rw [List.append_nil]; exact H) (MF.rf _ _ _)
  | cons e w ih =>
    intro out σ H Ht hb he hn hQ
    have hl2 : (e :: w ++ v).length = (w ++ v).length + 1 := rfl
    have hlv : (w ++ v).length = w.length + v.length := List.length_append
    rw [hl2] at hn
    refine Ev_aload rfl rfl rfl ?_
    refine Ev_getI rfl (by first | rfl | assumption) ?_
    refine Ev_norm Ht.bad0 ?_
    refine Ev_if_ne rfl (fun h57 => absurd rfl h57) (fun h57 => ?_)
    refine Ev_aload rfl rfl rfl ?_
    refine Ev_getI rfl (by first | rfl | assumption) ?_
    refine Ev_norm (H.2.2.1 : _ = nI ((w ++ v).length + 1)) ?_
    refine Ev_aload rfl rfl rfl ?_
    refine Ev_getI rfl (by first | rfl | assumption) ?_
    refine Ev_norm hb ?_
    refine Ev_icmp_le rfl (fun h68 => absurd ((nI_leI (by omega) (by omega)).mp h68) (by omega)) (fun h68 => ?_)
    refine Ev_aload rfl rfl rfl ?_
    refine Ev_callV rfl rfl rfl rfl rfl (same_n 402) (m_qDrops _ (W := w ++ v) hρ H (by omega) (by omega) (he e List.mem_cons_self)) ?_
    rintro v72 ρ72 σ72 ⟨rfl, e72, s72, c72⟩
    obtain rfl := e72.symm
    refine Ev_goto rfl ?_
    refine ih (out ++ [e]) σ72 s72 (Ht.mz c72.z) (by rw [c72.2.2 _ rfl]; exact hb) (fun x hx => he x (List.mem_cons_of_mem e hx)) (by rw [List.length_append]; show out.length + 1 + _ < _; omega) (fun σ' h1 h2 => hQ σ' ?_ (c72.tr h2))
    rw [List.append_assoc] at h1
    exact h1
end S88zl
