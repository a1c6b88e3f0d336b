/-! learns, lasts, odds. -/
section S70
variable {l : Launch} {X : Cx}
theorem ml_loop {d x y h N : Nat} {ρ : Rf} {A : Ab} {σ0 : St} {Q : Po} {a4 : Value} (hM : RM ρ σ0 A) (hA : WfA A) (hx : x < nb (aB A)) (hy : y < ni (aB A)) (hN : N = most60 (aN A).1 60)
    (hQ : ∀ n σ, n ≤ N → MTh σ0 (aB A) (adS (aB A) (aN A).2.2.1 (wit (aB A)) (aN A).1 n (aN A).2.1) (wit (aB A)) ((aN A).1 + n) (aN A).2.2.1 σ → fstK (fun n => advB (aB A) (aN A).2.2.1 x (wit (aB A) x) (aN A).1 n ((aN A).2.1 x) y) N 0 = (if 0 < advB (aB A) (aN A).2.2.1 x (wit (aB A) x) (aN A).1 n ((aN A).2.1 x) y then some n else none) → Ev l X (d + 9) 232 63 [.ref 326, .int (nI x), .int (nI y), .int (nI n), a4] [] 402 402 402 ρ σ Q) :
    ∀ (m n : Nat) (σ : St), n + m = N → MTh σ0 (aB A) (adS (aB A) (aN A).2.2.1 (wit (aB A)) (aN A).1 n (aN A).2.1) (wit (aB A)) ((aN A).1 + n) (aN A).2.2.1 σ → fstK (fun n => advB (aB A) (aN A).2.2.1 x (wit (aB A) x) (aN A).1 n ((aN A).2.1 x) y) N 0 = fstK (fun n => advB (aB A) (aN A).2.2.1 x (wit (aB A) x) (aN A).1 n ((aN A).2.1 x) y) m n →
    Ev l X (d + 9) 232 25 [.ref 326, .int (nI x), .int (nI y), .int (nI n), a4] [] 402 402 402 ρ σ Q := by
  have hW := hA.1.1
  have hWt := hA.1.2.1
  have hWf := hA.1.2.2.1
  have n8 := hW.1
  have n6 := hW.2.1
  have nh := hA.2.1.1
  have hSw := hA.2.1.2.1
  have hPw := hA.2.1.2.2.1
  have hN60 : N ≤ 60 ∧ (aN A).1 + N ≤ 999 ∧ (N = 60 ∨ (aN A).1 + N = 999) := by rw [hN]; unfold most60; split <;> omega
  have hρ := hM.1
  intro m
  induction m with
  | zero =>
    intro n σ hn hT hf
    have hn : n = N := by omega
    subst hn
    refine Ev_aload rfl rfl rfl ?_
    refine Ev_iload rfl rfl ?_
    refine Ev_iload rfl rfl ?_
    refine Ev_callV rfl rfl rfl rfl rfl (same_n 402) (m_strengthOf _ hρ hT.2.1.2.2.1 (by omega) (by omega)) ?_
    rintro v28 ρ28 σ28 ⟨rfl, e28, g28⟩
    obtain rfl := e28.symm
    obtain rfl := g28.symm
    refine Ev_if_ne rfl (fun h31 => ?_) (fun h31 => ?_)
    · exact hQ n σ (Nat.le_refl _) hT hf
    · refine Ev_iload rfl rfl ?_
      refine Ev_const rfl ?_
      refine Ev_icmp_ge rfl (fun h37 => ?_) (fun h37 => ?_)
      · exact hQ n σ (Nat.le_refl _) hT hf
      · refine Ev_aload rfl rfl rfl ?_
        refine Ev_getR rfl (by first | rfl | assumption) (hρ _ _ _ rfl) ?_
        refine Ev_const rfl ?_
        refine Ev_iald rfl (by first | rfl | assumption) (vp_in_nI (n := 0) (by decide) (by decide)) ?_
        refine Ev_norm hT.2.1.2.2.2.2 ?_
        refine Ev_const rfl ?_
        refine Ev_icmp_ge rfl (fun h49 => ?_) (fun h49 => absurd (nI_le (a := 999) (b := (aN A).1 + n) (by have : n < 60 := Decidable.byContradiction fun z => h37 (nI_le (a := 60) (by omega) (by omega)); omega) (by omega)) h49)
        exact hQ n σ (Nat.le_refl _) hT hf
  | succ m ih =>
    intro n σ hn hT hf
    have h99 := (adS_wf (W := wit (aB A)) (h := (aN A).1) hPw hSw n x y).1
    have er : adS (aB A) (aN A).2.2.1 (wit (aB A)) (aN A).1 n (aN A).2.1 x y = advB (aB A) (aN A).2.2.1 x (wit (aB A) x) (aN A).1 n ((aN A).2.1 x) y := by rw [adS_row hx]
    refine Ev_aload rfl rfl rfl ?_
    refine Ev_iload rfl rfl ?_
    refine Ev_iload rfl rfl ?_
    refine Ev_callV rfl rfl rfl rfl rfl (same_n 402) (m_strengthOf _ hρ hT.2.1.2.2.1 (by omega) (by omega)) ?_
    rintro v28 ρ28 σ28 ⟨rfl, e28, g28⟩
    obtain rfl := e28.symm
    obtain rfl := g28.symm
    refine Ev_if_ne rfl (fun h31 => ?_) (fun h31 => ?_)
    · have hz : 0 < advB (aB A) (aN A).2.2.1 x (wit (aB A) x) (aN A).1 n ((aN A).2.1 x) y := by
        rw [← er]; exact Nat.pos_of_ne_zero (fun z => h31 (by rw [z]; rfl))
      refine hQ n σ (by omega) hT ?_
      rw [hf]
      unfold fstK
      rw [if_pos hz, if_pos hz]
    · refine Ev_iload rfl rfl ?_
      refine Ev_const rfl ?_
      refine Ev_icmp_ge rfl (fun h37 => absurd h37 (nI_ge (b := 60) (by omega) (by decide))) (fun h37 => ?_)
      refine Ev_aload rfl rfl rfl ?_
      refine Ev_getR rfl (by first | rfl | assumption) (hρ _ _ _ rfl) ?_
      refine Ev_const rfl ?_
      refine Ev_iald rfl (by first | rfl | assumption) (vp_in_nI (n := 0) (by decide) (by decide)) ?_
      refine Ev_norm hT.2.1.2.2.2.2 ?_
      refine Ev_const rfl ?_
      refine Ev_icmp_ge rfl (fun h49 => absurd h49 (nI_ge (b := 999) (by omega) (by decide))) (fun h49 => ?_)
      refine Ev_aload rfl rfl rfl ?_
      refine Ev_const rfl ?_
      refine Ev_callV rfl rfl rfl rfl rfl (same_n 402) (m_thHours _ hρ hT hW hWt hWf (adS_wf hPw hSw n) hPw (wf9 hA) (n := 1) (by omega)) ?_
      rintro v54 ρ54 σ54 ⟨rfl, e54, t54⟩
      obtain rfl := e54.symm
      refine Ev_iincE rfl rfl (nI_1 n) ?_
      refine Ev_goto rfl ?_
      refine ih (n + 1) σ54 (by omega) t54 ?_
      rw [hf]
      have hz : ¬ 0 < advB (aB A) (aN A).2.2.1 x (wit (aB A) x) (aN A).1 n ((aN A).2.1 x) y := by
        rw [← er]; exact fun z => h31 (nI_ne0 z (by omega))
      show (if 0 < advB (aB A) (aN A).2.2.1 x (wit (aB A) x) (aN A).1 n ((aN A).2.1 x) y then some n else _) = _
      rw [if_neg hz]
theorem op_learns (a b : Int32) : OpI l X InvA 121 232 [.int a, .int b] := by
  refine op_of (fun A q ρ σ hA hC hρ => ?_)
  have hW := hA.1.1
  have hWt := hA.1.2.1
  have hWf := hA.1.2.2.1
  have n8 := hW.1
  have n6 := hW.2.1
  have nh := hA.2.1.1
  have hSw := hA.2.1.2.1
  have hPw := hA.2.1.2.2.1
  have hCS : CStr σ (aN A).2.1 := fun b hb i hi => rf_str hC hb hi
  have hhr := hC.2.2.2.1.1
  by_cases h : (hasF (nb (aB A)) a && hasF (ni (aB A)) b) = true
  · obtain ⟨ha, hb⟩ := Bool.and_eq_true_iff.mp h
    obtain ⟨x, hx, rfl⟩ := hasF_of ha
    obtain ⟨y, hy, rfl⟩ := hasF_of hb
    refine ⟨plV (fstK (fun n => advB (aB A) (aN A).2.2.1 x (wit (aB A) x) (aN A).1 n ((aN A).2.1 x) y) (most60 (aN A).1 60) 0), A, hA, ?_, fun ρ σ hM => ?_⟩
    · refine T_of rfl ?_
      refine Ev_aload rfl rfl rfl ?_
      refine Ev_iload rfl rfl ?_
      refine Ev_iload rfl rfl ?_
      refine Ev_callV rfl rfl rfl rfl rfl (same_n 402) (t_hasBoth _ _ _ hC.1.1 hC.2.1 hW) ?_
      rintro v3 ρ3 σ3 ⟨rfl, e3, g3⟩
      obtain rfl := e3.symm
      obtain rfl := g3.symm
      refine Ev_if_eq rfl (fun h6 => absurd h6 (by rw [h]; decide)) (fun h6 => ?_)
      refine Ev_aload rfl rfl rfl ?_
      refine Ev_getR rfl (by first | rfl | assumption) (hρ _ _ _ rfl) ?_
      refine Ev_iload rfl rfl ?_
      refine Ev_iload rfl rfl ?_
      refine Ev_callV rfl rfl rfl rfl rfl (same_n 402) (t_firstKnown _ hC.2.1 hW hWt hWf hPw hC.2.2.2.1.2.2.1 hCS hSw hhr nh hx hy) ?_
      rintro v15 ρ15 σ15 ⟨rfl, e15, s15⟩
      obtain rfl := e15.symm
      refine Ev_goto rfl ?_
      exact Ev_ireturn rfl rfl rfl rfl ⟨rfl, hC.pure (s15.wk (fun _ _ h => cR_X h))⟩
    · have hρ := hM.1
      refine T_of rfl ?_
      refine Ev_aload rfl rfl rfl ?_
      refine Ev_iload rfl rfl ?_
      refine Ev_callV rfl rfl rfl rfl rfl (same_n 402) (m_isBather _ hρ hM.2.1.1 hW _) ?_
      rintro v2 ρ2 σ2 ⟨rfl, e2, g2⟩
      obtain rfl := e2.symm
      obtain rfl := g2.symm
      refine Ev_if_eq rfl (fun h5 => absurd h5 (by rw [← hasF_eq, ha]; decide)) (fun h5 => ?_)
      refine Ev_aload rfl rfl rfl ?_
      refine Ev_iload rfl rfl ?_
      refine Ev_i2l rfl ?_
      refine Ev_callV rfl rfl rfl rfl rfl (same_n 402) (m_isIdea _ hρ hM.2.1.1 hW _) ?_
      rintro v11 ρ11 σ11 ⟨rfl, e11, g11⟩
      obtain rfl := e11.symm
      obtain rfl := g11.symm
      refine Ev_if_ne rfl (fun h14 => ?_) (fun h14 => absurd (by rw [l_of, ← hasF_eq, hb]; decide) h14)
      refine Ev_const rfl ?_
      refine Ev_istore rfl ?_
      refine Ev_aload rfl rfl rfl ?_
      refine Ev_callV rfl rfl rfl rfl rfl (same_n 402) (m_thinks _ hM hW) ?_
      rintro v22 ρ22 σ22 ⟨rfl, e22, t22⟩
      obtain rfl := e22.symm
      refine ml_loop (d := 91) (h := 0) (a4 := .float 0) hM hA hx hy rfl (fun n σ1 hn hT hf => ?_) (most60 (aN A).1 60) 0 σ22 (by omega) t22 rfl
      have h99 := (adS_wf (W := wit (aB A)) (h := (aN A).1) hPw hSw n x y).1
      have hn60 : n ≤ 60 := Nat.le_trans hn (by unfold most60; split <;> omega)
      rw [hf]
      have fin : ∀ z : Int32, Ev l X 100 232 79 [.ref 326, .int (nI x), .int (nI y), .int (nI n), .int z] [] 402 402 402 ρ σ1 (fun v ρ' σ' => v = some (.int (if z = 0 then -1 else nI n)) ∧ ρ' = ρ ∧ upC σ σ' ∧ RM ρ' σ' A) := by
        intro z
        refine Ev_aload rfl rfl rfl ?_
        refine Ev_callV rfl rfl rfl rfl rfl (same_n 402) (m_thBack _ hM hT) ?_
        rintro v80 ρ80 σ80 ⟨rfl, e80, f80, -⟩
        obtain rfl := e80.symm
        refine Ev_iload rfl rfl ?_
        refine Ev_if_eq rfl (fun h85 => ?_) (fun h85 => ?_)
        · refine Ev_const rfl ?_
          exact Ev_ireturn rfl rfl rfl rfl ⟨by rw [if_pos h85], rfl, hM.pure f80⟩
        · refine Ev_iload rfl rfl ?_
          refine Ev_goto rfl ?_
          exact Ev_ireturn rfl rfl rfl rfl ⟨by rw [if_neg h85], rfl, hM.pure f80⟩
      refine Ev_aload rfl rfl rfl ?_
      refine Ev_iload rfl rfl ?_
      refine Ev_iload rfl rfl ?_
      refine Ev_callV rfl rfl rfl rfl rfl (same_n 402) (m_strengthOf _ hρ hT.2.1.2.2.1 (by omega) (by omega)) ?_
      rintro v66 ρ66 σ66 ⟨rfl, e66, g66⟩
      obtain rfl := e66.symm
      obtain rfl := g66.symm
      refine Ev_norm (by rw [adS_row hx] : _ = nI (advB (aB A) (aN A).2.2.1 x (wit (aB A) x) (aN A).1 n ((aN A).2.1 x) y)) ?_
      refine Ev_if_le rfl (fun h69 => ?_) (fun h69 => ?_)
      · refine Ev_const rfl ?_
        refine Ev_istore rfl ?_
        have hz : ¬ 0 < advB (aB A) (aN A).2.2.1 x (wit (aB A) x) (aN A).1 n ((aN A).2.1 x) y := fun z => absurd h69 (nI_nle z (by rw [adS_row hx] at h99; omega))
        rw [if_neg hz]; exact fin 0
      · refine Ev_const rfl ?_
        refine Ev_goto rfl ?_
        refine Ev_istore rfl ?_
        have hz : 0 < advB (aB A) (aN A).2.2.1 x (wit (aB A) x) (aN A).1 n ((aN A).2.1 x) y := Nat.pos_of_ne_zero (fun z => h69 (by rw [z]; decide))
        rw [if_pos hz]; exact fin 1
  · refine ⟨-1, A, hA, ?_, fun ρ σ hM => ?_⟩
    · refine T_of rfl ?_
      refine Ev_aload rfl rfl rfl ?_
      refine Ev_iload rfl rfl ?_
      refine Ev_iload rfl rfl ?_
      refine Ev_callV rfl rfl rfl rfl rfl (same_n 402) (t_hasBoth _ _ _ hC.1.1 hC.2.1 hW) ?_
      rintro v3 ρ3 σ3 ⟨rfl, e3, g3⟩
      obtain rfl := e3.symm
      obtain rfl := g3.symm
      refine Ev_if_eq rfl (fun h6 => ?_) (fun h6 => absurd (show bI (hasF (nb (aB A)) a && hasF (ni (aB A)) b) = 0 by rw [both_no h]; rfl) h6)
      refine Ev_const rfl ?_
      exact Ev_ireturn rfl rfl rfl rfl ⟨rfl, hC.same⟩
    · have hρ := hM.1
      refine T_of rfl ?_
      refine Ev_aload rfl rfl rfl ?_
      refine Ev_iload rfl rfl ?_
      refine Ev_callV rfl rfl rfl rfl rfl (same_n 402) (m_isBather _ hρ hM.2.1.1 hW _) ?_
      rintro v2 ρ2 σ2 ⟨rfl, e2, g2⟩
      obtain rfl := e2.symm
      obtain rfl := g2.symm
      refine Ev_if_eq rfl (fun h5 => ?_) (fun h5 => ?_)
      · refine Ev_const rfl ?_
        exact Ev_ireturn rfl rfl rfl rfl ⟨rfl, rfl, hM.same⟩
      · refine Ev_aload rfl rfl rfl ?_
        refine Ev_iload rfl rfl ?_
        refine Ev_i2l rfl ?_
        refine Ev_callV rfl rfl rfl rfl rfl (same_n 402) (m_isIdea _ hρ hM.2.1.1 hW _) ?_
        rintro v11 ρ11 σ11 ⟨rfl, e11, g11⟩
        obtain rfl := e11.symm
        obtain rfl := g11.symm
        refine Ev_if_ne rfl (fun h14 => absurd (Bool.and_eq_true_iff.mpr ⟨rt_of h5, by have := rt_of h14; rwa [l_of] at this⟩) h) (fun h14 => ?_)
        refine Ev_const rfl ?_
        exact Ev_ireturn rfl rfl rfl rfl ⟨rfl, rfl, hM.same⟩
end S70
