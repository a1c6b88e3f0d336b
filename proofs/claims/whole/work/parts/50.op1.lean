/-! Calls that read alone. -/
theorem has_no {n : Nat} {x : Int32} (h : ¬ hasF n x = true) : hasF n x = false := by
  cases hq : hasF n x
  · rfl
  · exact absurd hq h
theorem lt_n {n : Nat} {a : Int32} (hn : n < 2 ^ 31) (h : ¬ (a < 0 ∨ nI n ≤ a)) : a.toNatClampNeg < n := by
  rw [Int32.lt_iff_toInt_lt, Int32.le_iff_toInt_le, nI_toInt hn] at h
  have e0 : (0 : Int32).toInt = 0 := rfl
  show a.toInt.toNat < n
  omega
theorem lt_6 {a : Int32} (h : ¬ (a < 0 ∨ 6 ≤ a)) : a.toNatClampNeg < 6 := lt_n (n := 6) (by decide) h
section S50
variable {l : Launch} {X : Cx}
theorem rf_str {ρ : Rf} {σ : St} {A : Ab} {q b i : Nat} (hC : RC q ρ σ A) (hb : b < 6) (hi : i < 8) : σ.1 (34 + b) i = nI ((aN A).2.1 b i) := hC.2.2.2.1.2.1 b hb i hi
theorem op_knows (a b : Int32) : OpI l X InvA 115 226 [.int a, .int b] := by
  refine op_of (fun A q ρ σ hA hC hρ => ?_)
  have hW := hA.1.1
  have n8 := hW.1
  have n6 := hW.2.1
  by_cases h : (hasF (nb (aB A)) a && hasF (ni (aB A)) b) = true
  · obtain ⟨ha, hb⟩ := Bool.and_eq_true_iff.mp h
    obtain ⟨x, hx, rfl⟩ := hasF_of ha
    obtain ⟨y, hy, rfl⟩ := hasF_of hb
    refine ⟨nI ((aN A).2.1 x y), A, hA, ?_, fun ρ σ hM => ?_⟩
    · refine T_of rfl ?_
      refine Ev_aload rfl rfl rfl ?_
      refine Ev_iload rfl rfl ?_
      refine Ev_iload rfl rfl ?_
      refine Ev_callV rfl rfl rfl rfl rfl (same_n 402) (t_hasBoth _ _ _ hC.1.1 hC.2.1 hW) ?_
      rintro v3 ρ3 σ3 ⟨rfl, e3, g3⟩
      obtain rfl := e3.symm
      obtain rfl := g3.symm
      refine Ev_if_eq rfl (fun h6 => absurd h6 (by rw [h]; decide)) (fun h6 => ?_)
      refine Ev_aload rfl rfl rfl ?_
      refine Ev_getR rfl (by first | rfl | assumption) (hρ _ _ _ rfl) ?_
      refine Ev_getR rfl (by first | rfl | assumption) (hρ _ _ _ rfl) ?_
      refine Ev_iload rfl rfl ?_
      refine Ev_aald (t := 4) rfl (Or.inl rfl) (by first | rfl | assumption) (vp_in_nI (n := x) (show x < 6 by omega) (by decide)) (by rw [nI_clamp (by omega)]; exact rf33 hρ (by omega) : _ = some (34 + x)) ?_
      refine Ev_iload rfl rfl ?_
      refine Ev_iald rfl ((rowN (show x < 6 by omega)).1) (by rw [(rowN (show x < 6 by omega)).2.1]; exact vp_in_nI (n := y) (show y < 8 by omega) (by decide)) ?_
      refine Ev_norm (by rw [nI_clamp (by omega)]; exact rf_str hC (by omega) (by omega) : _ = nI ((aN A).2.1 x y)) ?_
      refine Ev_goto rfl ?_
      exact Ev_ireturn rfl rfl rfl rfl ⟨rfl, hC.same⟩
    · have hρ := hM.1
      refine T_of rfl ?_
      refine Ev_aload rfl rfl rfl ?_
      refine Ev_iload rfl rfl ?_
      refine Ev_callV rfl rfl rfl rfl rfl (same_n 402) (m_isBather _ hρ hM.2.1.1 hW _) ?_
      rintro v2 ρ2 σ2 ⟨rfl, e2, g2⟩
      obtain rfl := e2.symm
      obtain rfl := g2.symm
      refine Ev_if_eq rfl (fun h5 => absurd h5 (by rw [show decide (0 ≤ (nI x).toInt ∧ (nI x).toInt < (nb (aB A) : Int)) = true from ha]; decide)) (fun h5 => ?_)
      refine Ev_aload rfl rfl rfl ?_
      refine Ev_iload rfl rfl ?_
      refine Ev_i2l rfl ?_
      refine Ev_callV rfl rfl rfl rfl rfl (same_n 402) (m_isIdea _ hρ hM.2.1.1 hW _) ?_
      rintro v11 ρ11 σ11 ⟨rfl, e11, g11⟩
      obtain rfl := e11.symm
      obtain rfl := g11.symm
      refine Ev_if_eq rfl (fun h14 => absurd h14 (by rw [l_of, show decide (0 ≤ (nI y).toInt ∧ (nI y).toInt < (ni (aB A) : Int)) = true from hb]; decide)) (fun h14 => ?_)
      refine Ev_aload rfl rfl rfl ?_
      refine Ev_iload rfl rfl ?_
      refine Ev_iload rfl rfl ?_
      refine Ev_callV rfl rfl rfl rfl rfl (same_n 402) (m_strengthOf _ hρ hM.2.2.2.1.2.1 (by omega) (by omega)) ?_
      rintro v20 ρ20 σ20 ⟨rfl, e20, g20⟩
      obtain rfl := e20.symm
      obtain rfl := g20.symm
      refine Ev_goto rfl ?_
      exact Ev_ireturn rfl rfl rfl rfl ⟨rfl, rfl, hM.same⟩
  · refine ⟨-1, A, hA, ?_, fun ρ σ hM => ?_⟩
    · refine T_of rfl ?_
      refine Ev_aload rfl rfl rfl ?_
      refine Ev_iload rfl rfl ?_
      refine Ev_iload rfl rfl ?_
      refine Ev_callV rfl rfl rfl rfl rfl (same_n 402) (t_hasBoth _ _ _ hC.1.1 hC.2.1 hW) ?_
      rintro v3 ρ3 σ3 ⟨rfl, e3, g3⟩
      obtain rfl := e3.symm
      obtain rfl := g3.symm
      refine Ev_if_eq rfl (fun h6 => ?_) (fun h6 => absurd (show bI (hasF (nb (aB A)) a && hasF (ni (aB A)) b) = 0 by rw [Bool.eq_false_iff.mpr h]; rfl) h6)
      refine Ev_const rfl ?_
      exact Ev_ireturn rfl rfl rfl rfl ⟨rfl, hC.same⟩
    · have hρ := hM.1
      refine T_of rfl ?_
      refine Ev_aload rfl rfl rfl ?_
      refine Ev_iload rfl rfl ?_
      refine Ev_callV rfl rfl rfl rfl rfl (same_n 402) (m_isBather _ hρ hM.2.1.1 hW _) ?_
      rintro v2 ρ2 σ2 ⟨rfl, e2, g2⟩
      obtain rfl := e2.symm
      obtain rfl := g2.symm
      refine Ev_if_eq rfl (fun h5 => ?_) (fun h5 => ?_)
      · refine Ev_const rfl ?_
        exact Ev_ireturn rfl rfl rfl rfl ⟨rfl, rfl, hM.same⟩
      · refine Ev_aload rfl rfl rfl ?_
        refine Ev_iload rfl rfl ?_
        refine Ev_i2l rfl ?_
        refine Ev_callV rfl rfl rfl rfl rfl (same_n 402) (m_isIdea _ hρ hM.2.1.1 hW _) ?_
        rintro v11 ρ11 σ11 ⟨rfl, e11, g11⟩
        obtain rfl := e11.symm
        obtain rfl := g11.symm
        refine Ev_if_eq rfl (fun h14 => ?_) (fun h14 => absurd (Bool.and_eq_true_iff.mpr ⟨rt_of h5, by have := rt_of h14; rwa [l_of] at this⟩) h)
        refine Ev_const rfl ?_
        exact Ev_ireturn rfl rfl rfl rfl ⟨rfl, rfl, hM.same⟩
theorem op_fault (a : Int32) : OpI l X InvA 107 191 [.int a] := by
  refine op_of (fun A q ρ σ hA hC hρ => ⟨(if a = 0 then nI (aE A).1 else if a = 1 then (aE A).2 else -1), A, hA, ?_, fun ρ σ hM => ?_⟩)
  · refine (t_fault _ a).mono (fun v ρ' σ' hq => ?_)
    obtain ⟨rfl, rfl, rfl⟩ := hq
    exact ⟨by rw [hC.2.2.2.2.2.2.2.2.2.1.1, hC.2.2.2.2.2.2.2.2.2.1.2], hC.same⟩
  · refine (m_fault _ a).mono (fun v ρ' σ' hq => ?_)
    obtain ⟨rfl, rfl, rfl⟩ := hq
    exact ⟨by rw [hM.2.2.2.2.2.2.2.2.2.1.1, hM.2.2.2.2.2.2.2.2.2.1.2], rfl, hM.same⟩
theorem op_status (a : Int32) : OpI l X InvA 146 297 [.int a] := by
  refine op_of (fun A q ρ σ hA hC hρ => ⟨(if a < 0 ∨ 6 ≤ a then -1 else aR A a.toNatClampNeg), A, hA, ?_, fun ρ σ hM => ?_⟩)
  · refine (t_status _ hρ a).mono (fun v ρ' σ' hq => ?_)
    obtain ⟨rfl, rfl, rfl⟩ := hq
    refine ⟨?_, hC.same⟩
    by_cases hc : a < 0 ∨ 6 ≤ a
    · rw [if_pos hc, if_pos hc]
    · rw [if_neg hc, if_neg hc, hC.2.2.2.2.2.2.2.2.1 _ (lt_6 hc)]
  · refine (m_status _ hM.1 a).mono (fun v ρ' σ' hq => ?_)
    obtain ⟨rfl, rfl, rfl⟩ := hq
    refine ⟨?_, rfl, hM.same⟩
    by_cases hc : a < 0 ∨ 6 ≤ a
    · rw [if_pos hc, if_pos hc]
    · rw [if_neg hc, if_neg hc, hM.2.2.2.2.2.2.2.2.1 _ (lt_6 hc)]
theorem op_octet (a : Int32) : OpI l X InvA 143 294 [.int a] := by
  refine op_of (fun A q ρ σ hA hC hρ => ⟨(if a < 0 ∨ nI (aG A).1 ≤ a then -1 else nI ((aG A).2 a.toNatClampNeg)), A, hA, ?_, fun ρ σ hM => ?_⟩)
  · have hI := hC.2.2.2.2.2.2.2.2.2.2
    refine (t_octet _ hρ hI.1 hA.2.2.2.2.2.2.1 a).mono (fun v ρ' σ' hq => ?_)
    obtain ⟨rfl, rfl, rfl⟩ := hq
    refine ⟨?_, hC.same⟩
    by_cases hc : a < 0 ∨ nI (aG A).1 ≤ a
    · rw [if_pos hc, if_pos hc]
    · rw [if_neg hc, if_neg hc, ← hI.2 _ (lt_n (by have := hA.2.2.2.2.2.2.1; omega) hc)]
  · have hI := hM.2.2.2.2.2.2.2.2.2.2
    refine (m_octet _ hM.1 hI.1 hA.2.2.2.2.2.2.1 a).mono (fun v ρ' σ' hq => ?_)
    obtain ⟨rfl, rfl, rfl⟩ := hq
    refine ⟨?_, rfl, hM.same⟩
    by_cases hc : a < 0 ∨ nI (aG A).1 ≤ a
    · rw [if_pos hc, if_pos hc]
    · rw [if_neg hc, if_neg hc, ← hI.2 _ (lt_n (by have := hA.2.2.2.2.2.2.1; omega) hc)]
end S50
