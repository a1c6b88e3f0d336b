/-! How many there are; of an idea; of a bather. -/
section S64
variable {l : Launch} {X : Cx}
theorem op_has (a : Int32) : OpI l X InvA 108 220 [.int a] := by
  refine op_of (fun A q ρ σ hA hC hρ => ?_)
  have hW := hA.1.1
  have hWt := hA.1.2.1
  have hWf := hA.1.2.2.1
  have n8 := hW.1
  have n6 := hW.2.1
  have nh : (aN A).1 ≤ 2000 := Nat.le_trans hA.2.1.1 (by decide)
  have hSw := hA.2.1.2.1
  have hle : ∀ b i, (aN A).2.1 b i ≤ 99 := fun b i => (hSw b i).1
  have hCS : CStr σ (aN A).2.1 := fun b hb i hi => rf_str hC hb hi
  have hcn := hC.2.1.2.2.2.1
  refine ⟨(if a.toInt = 0 then nI (ni (aB A)) else if a.toInt = 1 then nI (nn (aB A)) else if a.toInt = 2 then nI (nb (aB A)) else if a.toInt = 3 then nI (np (aB A)) else if a.toInt = 4 then nI (aN A).1 else if a.toInt = 5 then nI (tdM (aB A) (aN A).1) else if a.toInt = 6 then nI (kAll (aB A) (aN A).2.1) else if a.toInt = 7 then nI (sAll (aB A) (aN A).2.1) else if a.toInt = 8 then nI (aN A).2.2.2.1 else if a.toInt = 9 then nI (aF A).1 else if a.toInt = 10 then nI (aP A).1 else -1), A, hA, ?_, fun ρ σ hM => ?_⟩
  · refine T_of rfl ?_
    refine Ev_iload rfl rfl ?_
    refine Ev_tab rfl rfl (swP_c (fun h1_0 => ?_) (fun g1_0 => swP_c (fun h1_1 => ?_) (fun g1_1 => swP_c (fun h1_2 => ?_) (fun g1_2 => swP_c (fun h1_3 => ?_) (fun g1_3 => swP_c (fun h1_4 => ?_) (fun g1_4 => swP_c (fun h1_5 => ?_) (fun g1_5 => swP_c (fun h1_6 => ?_) (fun g1_6 => swP_c (fun h1_7 => ?_) (fun g1_7 => swP_c (fun h1_8 => ?_) (fun g1_8 => swP_c (fun h1_9 => ?_) (fun g1_9 => swP_c (fun h1_10 => ?_) (fun g1_10 => swP_n ?_))))))))))))
    · refine Ev_aload rfl rfl rfl ?_
      refine Ev_getR rfl (by first | rfl | assumption) hC.1.1 ?_
      refine Ev_getI rfl (by rcases hC.2.1.2.1 with rfl | rfl <;> rfl) ?_
      refine Ev_norm hcn.1 ?_
      exact Ev_ireturn rfl rfl rfl rfl ⟨by rw [if_pos h1_0], hC.same⟩
    · refine Ev_aload rfl rfl rfl ?_
      refine Ev_getR rfl (by first | rfl | assumption) hC.1.1 ?_
      refine Ev_getI rfl (by rcases hC.2.1.2.1 with rfl | rfl <;> rfl) ?_
      refine Ev_norm hcn.2.1 ?_
      exact Ev_ireturn rfl rfl rfl rfl ⟨by rw [if_neg g1_0, if_pos h1_1], hC.same⟩
    · refine Ev_aload rfl rfl rfl ?_
      refine Ev_getR rfl (by first | rfl | assumption) hC.1.1 ?_
      refine Ev_getI rfl (by rcases hC.2.1.2.1 with rfl | rfl <;> rfl) ?_
      refine Ev_norm hcn.2.2.1 ?_
      exact Ev_ireturn rfl rfl rfl rfl ⟨by rw [if_neg g1_0, if_neg g1_1, if_pos h1_2], hC.same⟩
    · refine Ev_aload rfl rfl rfl ?_
      refine Ev_getR rfl (by first | rfl | assumption) (hρ _ _ _ rfl) ?_
      refine Ev_getI rfl (by first | rfl | assumption) ?_
      refine Ev_norm hC.2.2.2.1.2.2.1.1 ?_
      exact Ev_ireturn rfl rfl rfl rfl ⟨by rw [if_neg g1_0, if_neg g1_1, if_neg g1_2, if_pos h1_3], hC.same⟩
    · refine Ev_aload rfl rfl rfl ?_
      refine Ev_getR rfl (by first | rfl | assumption) (hρ _ _ _ rfl) ?_
      refine Ev_getI rfl (by first | rfl | assumption) ?_
      refine Ev_norm hC.2.2.2.1.1 ?_
      exact Ev_ireturn rfl rfl rfl rfl ⟨by rw [if_neg g1_0, if_neg g1_1, if_neg g1_2, if_neg g1_3, if_pos h1_4], hC.same⟩
    · refine Ev_aload rfl rfl rfl ?_
      refine Ev_getR rfl (by first | rfl | assumption) (hρ _ _ _ rfl) ?_
      refine Ev_aload rfl rfl rfl ?_
      refine Ev_getR rfl (by first | rfl | assumption) (hρ _ _ _ rfl) ?_
      refine Ev_getI rfl (by first | rfl | assumption) ?_
      refine Ev_norm hC.2.2.2.1.1 ?_
      refine Ev_callV rfl rfl rfl rfl rfl (same_n 402) (t_tideAt _ hC.2.1 hWf nh) ?_
      rintro v111 ρ111 σ111 ⟨rfl, e111, s111, -, -⟩
      obtain rfl := e111.symm
      exact Ev_ireturn rfl rfl rfl rfl ⟨by rw [if_neg g1_0, if_neg g1_1, if_neg g1_2, if_neg g1_3, if_neg g1_4, if_pos h1_5], hC.pure (s111.wk (fun _ _ h => cL_X h))⟩
    · refine Ev_aload rfl rfl rfl ?_
      refine Ev_callV rfl rfl rfl rfl rfl (same_n 402) (t_allKnown _ hC.1.1 hC.2.1 hW hCS hSw) ?_
      rintro v116 ρ116 σ116 ⟨rfl, e116, g116⟩
      obtain rfl := e116.symm
      obtain rfl := g116.symm
      exact Ev_ireturn rfl rfl rfl rfl ⟨by rw [if_neg g1_0, if_neg g1_1, if_neg g1_2, if_neg g1_3, if_neg g1_4, if_neg g1_5, if_pos h1_6], hC.same⟩
    · refine Ev_aload rfl rfl rfl ?_
      refine Ev_callV rfl rfl rfl rfl rfl (same_n 402) (t_allStrengths _ hC.1.1 hC.2.1 hW hCS) ?_
      rintro v121 ρ121 σ121 ⟨rfl, e121, g121⟩
      obtain rfl := e121.symm
      obtain rfl := g121.symm
      exact Ev_ireturn rfl rfl rfl rfl ⟨by rw [if_neg g1_0, if_neg g1_1, if_neg g1_2, if_neg g1_3, if_neg g1_4, if_neg g1_5, if_neg g1_6, if_pos h1_7], hC.same⟩
    · refine Ev_aload rfl rfl rfl ?_
      refine Ev_getR rfl (by first | rfl | assumption) (hρ _ _ _ rfl) ?_
      refine Ev_getI rfl (by first | rfl | assumption) ?_
      refine Ev_norm hC.2.2.2.1.2.2.2.1 ?_
      exact Ev_ireturn rfl rfl rfl rfl ⟨by rw [if_neg g1_0, if_neg g1_1, if_neg g1_2, if_neg g1_3, if_neg g1_4, if_neg g1_5, if_neg g1_6, if_neg g1_7, if_pos h1_8], hC.same⟩
    · refine Ev_aload rfl rfl rfl ?_
      refine Ev_getR rfl (by first | rfl | assumption) (hρ _ _ _ rfl) ?_
      refine Ev_getI rfl (by first | rfl | assumption) ?_
      refine Ev_norm hC.2.2.2.2.2.1.1 ?_
      exact Ev_ireturn rfl rfl rfl rfl ⟨by rw [if_neg g1_0, if_neg g1_1, if_neg g1_2, if_neg g1_3, if_neg g1_4, if_neg g1_5, if_neg g1_6, if_neg g1_7, if_neg g1_8, if_pos h1_9], hC.same⟩
    · refine Ev_aload rfl rfl rfl ?_
      refine Ev_getR rfl (by first | rfl | assumption) (hρ _ _ _ rfl) ?_
      refine Ev_getI rfl (by first | rfl | assumption) ?_
      refine Ev_norm hC.2.2.2.2.1.1 ?_
      exact Ev_ireturn rfl rfl rfl rfl ⟨by rw [if_neg g1_0, if_neg g1_1, if_neg g1_2, if_neg g1_3, if_neg g1_4, if_neg g1_5, if_neg g1_6, if_neg g1_7, if_neg g1_8, if_neg g1_9, if_pos h1_10], hC.same⟩
    · refine Ev_const rfl ?_
      exact Ev_ireturn rfl rfl rfl rfl ⟨by rw [if_neg g1_0, if_neg g1_1, if_neg g1_2, if_neg g1_3, if_neg g1_4, if_neg g1_5, if_neg g1_6, if_neg g1_7, if_neg g1_8, if_neg g1_9, if_neg g1_10], hC.same⟩
  · have hρ := hM.1
    refine T_of rfl ?_
    refine Ev_iload rfl rfl ?_
    refine Ev_tab rfl rfl (swP_c (fun h1_0 => ?_) (fun g1_0 => swP_c (fun h1_1 => ?_) (fun g1_1 => swP_c (fun h1_2 => ?_) (fun g1_2 => swP_c (fun h1_3 => ?_) (fun g1_3 => swP_c (fun h1_4 => ?_) (fun g1_4 => swP_c (fun h1_5 => ?_) (fun g1_5 => swP_c (fun h1_6 => ?_) (fun g1_6 => swP_c (fun h1_7 => ?_) (fun g1_7 => swP_c (fun h1_8 => ?_) (fun g1_8 => swP_c (fun h1_9 => ?_) (fun g1_9 => swP_c (fun h1_10 => ?_) (fun g1_10 => swP_n ?_))))))))))))
    · refine Ev_aload rfl rfl rfl ?_
      refine Ev_callV rfl rfl rfl rfl rfl (same_n 402) (m_ideaMany _ hρ hM.2.1.1) ?_
      rintro v61 ρ61 σ61 ⟨rfl, e61, g61⟩
      obtain rfl := e61.symm
      obtain rfl := g61.symm
      exact Ev_ireturn rfl rfl rfl rfl ⟨by rw [if_pos h1_0], rfl, hM.same⟩
    · refine Ev_aload rfl rfl rfl ?_
      refine Ev_getR rfl (by first | rfl | assumption) (hρ _ _ _ rfl) ?_
      refine Ev_const rfl ?_
      refine Ev_iald rfl (by first | rfl | assumption) (vp_in_nI (n := 7) (by decide) (by decide)) ?_
      refine Ev_norm (show _ = nI (nn (aB A)) from hM.2.1.1 2 (by decide)) ?_
      exact Ev_ireturn rfl rfl rfl rfl ⟨by rw [if_neg g1_0, if_pos h1_1], rfl, hM.same⟩
    · refine Ev_aload rfl rfl rfl ?_
      refine Ev_callV rfl rfl rfl rfl rfl (same_n 402) (m_batherMany _ hρ hM.2.1.1) ?_
      rintro v74 ρ74 σ74 ⟨rfl, e74, g74⟩
      obtain rfl := e74.symm
      obtain rfl := g74.symm
      exact Ev_ireturn rfl rfl rfl rfl ⟨by rw [if_neg g1_0, if_neg g1_1, if_pos h1_2], rfl, hM.same⟩
    · refine Ev_aload rfl rfl rfl ?_
      refine Ev_callV rfl rfl rfl rfl rfl (same_n 402) (m_planMany _ hρ hM.2.1.1) ?_
      rintro v79 ρ79 σ79 ⟨rfl, e79, g79⟩
      obtain rfl := e79.symm
      obtain rfl := g79.symm
      exact Ev_ireturn rfl rfl rfl rfl ⟨by rw [if_neg g1_0, if_neg g1_1, if_neg g1_2, if_pos h1_3], rfl, hM.same⟩
    · refine Ev_aload rfl rfl rfl ?_
      refine Ev_getR rfl (by first | rfl | assumption) (hρ _ _ _ rfl) ?_
      refine Ev_const rfl ?_
      refine Ev_iald rfl (by first | rfl | assumption) (vp_in_nI (n := 0) (by decide) (by decide)) ?_
      refine Ev_norm hM.2.2.2.1.1 ?_
      exact Ev_ireturn rfl rfl rfl rfl ⟨by rw [if_neg g1_0, if_neg g1_1, if_neg g1_2, if_neg g1_3, if_pos h1_4], rfl, hM.same⟩
    · refine Ev_aload rfl rfl rfl ?_
      refine Ev_callV rfl rfl rfl rfl rfl (same_n 402) (m_laysTide _ hρ (hM.rd hW) hM.2.1.2.2.1 hW hWt hWf hle (wf9 hA) nh) ?_
      rintro v91 ρ91 σ91 ⟨rfl, e91, t91⟩
      obtain rfl := e91.symm
      refine Ev_aload rfl rfl rfl ?_
      refine Ev_getI rfl (by first | rfl | assumption) ?_
      refine Ev_norm t91.2.2.2 ?_
      exact Ev_ireturn rfl rfl rfl rfl ⟨by rw [if_neg g1_0, if_neg g1_1, if_neg g1_2, if_neg g1_3, if_neg g1_4, if_pos h1_5], rfl, hM.pure t91.mx⟩
    · refine Ev_aload rfl rfl rfl ?_
      refine Ev_callV rfl rfl rfl rfl rfl (same_n 402) (m_knownAll _ hρ hM.2.1.1 hW hM.2.2.2.1.2.1 hSw) ?_
      rintro v100 ρ100 σ100 ⟨rfl, e100, g100⟩
      obtain rfl := e100.symm
      obtain rfl := g100.symm
      exact Ev_ireturn rfl rfl rfl rfl ⟨by rw [if_neg g1_0, if_neg g1_1, if_neg g1_2, if_neg g1_3, if_neg g1_4, if_neg g1_5, if_pos h1_6], rfl, hM.same⟩
    · refine Ev_aload rfl rfl rfl ?_
      refine Ev_const rfl ?_
      refine Ev_const rfl ?_
      refine Ev_callV rfl rfl rfl rfl rfl (same_n 402) (m_strengthAll _ (o := 1) (n := 48) (g := fun k => (aN A).2.1 (k / 8) (k % 8)) hρ (by decide) (fun k hk => by have := hM.2.2.2.1.2.1 (k / 8) (k % 8) (by omega) (by omega); rw [show 1 + 8 * (k / 8) + k % 8 = 1 + k by omega] at this; exact this)) ?_
      rintro v108 ρ108 σ108 ⟨rfl, e108, g108⟩
      obtain rfl := e108.symm
      obtain rfl := g108.symm
      refine Ev_norm (by rw [sAll_48 hW hSw] : _ = nI (sAll (aB A) (aN A).2.1)) ?_
      exact Ev_ireturn rfl rfl rfl rfl ⟨by rw [if_neg g1_0, if_neg g1_1, if_neg g1_2, if_neg g1_3, if_neg g1_4, if_neg g1_5, if_neg g1_6, if_pos h1_7], rfl, hM.same⟩
    · refine Ev_aload rfl rfl rfl ?_
      refine Ev_getR rfl (by first | rfl | assumption) (hρ _ _ _ rfl) ?_
      refine Ev_const rfl ?_
      refine Ev_iald rfl (by first | rfl | assumption) (vp_in_nI (n := 81) (by decide) (by decide)) ?_
      refine Ev_norm hM.2.2.2.1.2.2.2.1 ?_
      exact Ev_ireturn rfl rfl rfl rfl ⟨by rw [if_neg g1_0, if_neg g1_1, if_neg g1_2, if_neg g1_3, if_neg g1_4, if_neg g1_5, if_neg g1_6, if_neg g1_7, if_pos h1_8], rfl, hM.same⟩
    · refine Ev_aload rfl rfl rfl ?_
      refine Ev_getI rfl (by first | rfl | assumption) ?_
      refine Ev_norm hM.2.2.2.2.2.1.1 ?_
      exact Ev_ireturn rfl rfl rfl rfl ⟨by rw [if_neg g1_0, if_neg g1_1, if_neg g1_2, if_neg g1_3, if_neg g1_4, if_neg g1_5, if_neg g1_6, if_neg g1_7, if_neg g1_8, if_pos h1_9], rfl, hM.same⟩
    · refine Ev_aload rfl rfl rfl ?_
      refine Ev_getI rfl (by first | rfl | assumption) ?_
      refine Ev_norm hM.2.2.2.2.1.1 ?_
      exact Ev_ireturn rfl rfl rfl rfl ⟨by rw [if_neg g1_0, if_neg g1_1, if_neg g1_2, if_neg g1_3, if_neg g1_4, if_neg g1_5, if_neg g1_6, if_neg g1_7, if_neg g1_8, if_neg g1_9, if_pos h1_10], rfl, hM.same⟩
    · refine Ev_const rfl ?_
      exact Ev_ireturn rfl rfl rfl rfl ⟨by rw [if_neg g1_0, if_neg g1_1, if_neg g1_2, if_neg g1_3, if_neg g1_4, if_neg g1_5, if_neg g1_6, if_neg g1_7, if_neg g1_8, if_neg g1_9, if_neg g1_10], rfl, hM.same⟩
theorem op_idea (a b : Int32) : OpI l X InvA 112 224 [.int a, .int b] := by
  refine op_of (fun A q ρ σ hA hC hρ => ?_)
  have hW := hA.1.1
  have hWt := hA.1.2.1
  have n8 := hW.1
  have hSw := hA.2.1.2.1
  have hCS : CStr σ (aN A).2.1 := fun b hb i hi => rf_str hC hb hi
  by_cases h : hasF (ni (aB A)) a = true
  · obtain ⟨i, hi, rfl⟩ := hasF_of h
    have ct := hC.2.1.2.2.2.2.1.1 i hi
    have cr := (hC.2.2.1.1 i hi).2
    refine ⟨(if b.toInt = 0 then nI (dep (aB A) i) else if b.toInt = 1 then nI (nee (aB A) i) else if b.toInt = 2 then nI (roM (aB A) i) else if b.toInt = 3 then nI (kWho (aB A) (aN A).2.1 i) else -1), A, hA, ?_, fun ρ σ hM => ?_⟩
    · refine T_of rfl ?_
      refine Ev_aload rfl rfl rfl ?_
      refine Ev_iload rfl rfl ?_
      refine Ev_callV rfl rfl rfl rfl rfl (same_n 402) ((t_hasX _ _ hC.1.1 hC.2.1 hW).1) ?_
      rintro v2 ρ2 σ2 ⟨rfl, e2, g2⟩
      obtain rfl := e2.symm
      obtain rfl := g2.symm
      refine Ev_if_ne rfl (fun h5 => ?_) (fun h5 => absurd (by rw [h]; decide) h5)
      refine Ev_iload rfl rfl ?_
      refine Ev_tab rfl rfl (swP_c (fun h11_0 => ?_) (fun g11_0 => swP_c (fun h11_1 => ?_) (fun g11_1 => swP_c (fun h11_2 => ?_) (fun g11_2 => swP_c (fun h11_3 => ?_) (fun g11_3 => swP_n ?_)))))
      · refine Ev_aload rfl rfl rfl ?_
        refine Ev_getR rfl (by first | rfl | assumption) hC.1.1 ?_
        refine Ev_getR rfl (by rcases hC.2.1.2.1 with rfl | rfl <;> rfl) (by rcases hC.2.1.2.1 with rfl | rfl <;> exact hρ _ _ _ rfl : _ = some (q + 2)) ?_
        refine Ev_iload rfl rfl ?_
        refine Ev_iald rfl (by rcases hC.2.1.2.1 with rfl | rfl <;> rfl) (by rcases hC.2.1.2.1 with rfl | rfl <;> exact vp_in_nI (n := i) (show i < 8 by omega) (by decide)) ?_
        refine Ev_norm (by rw [nI_clamp (by omega)]; exact ct.1 : _ = nI (dep (aB A) i)) ?_
        exact Ev_ireturn rfl rfl rfl rfl ⟨by rw [if_pos h11_0], hC.same⟩
      · refine Ev_aload rfl rfl rfl ?_
        refine Ev_getR rfl (by first | rfl | assumption) hC.1.1 ?_
        refine Ev_getR rfl (by rcases hC.2.1.2.1 with rfl | rfl <;> rfl) (by rcases hC.2.1.2.1 with rfl | rfl <;> exact hρ _ _ _ rfl : _ = some (q + 3)) ?_
        refine Ev_iload rfl rfl ?_
        refine Ev_iald rfl (by rcases hC.2.1.2.1 with rfl | rfl <;> rfl) (by rcases hC.2.1.2.1 with rfl | rfl <;> exact vp_in_nI (n := i) (show i < 8 by omega) (by decide)) ?_
        refine Ev_norm (by rw [nI_clamp (by omega)]; exact ct.2 : _ = nI (nee (aB A) i)) ?_
        exact Ev_ireturn rfl rfl rfl rfl ⟨by rw [if_neg g11_0, if_pos h11_1], hC.same⟩
      · refine Ev_aload rfl rfl rfl ?_
        refine Ev_getR rfl (by first | rfl | assumption) hC.1.1 ?_
        refine Ev_getR rfl (by rcases hC.2.1.2.1 with rfl | rfl <;> rfl) (by rcases hC.2.1.2.1 with rfl | rfl <;> exact hρ _ _ _ rfl : _ = some (q + 4)) ?_
        refine Ev_iload rfl rfl ?_
        refine Ev_iald rfl (by rcases hC.2.1.2.1 with rfl | rfl <;> rfl) (by rcases hC.2.1.2.1 with rfl | rfl <;> exact vp_in_nI (n := i) (show i < 8 by omega) (by decide)) ?_
        refine Ev_norm (by rw [nI_clamp (by omega)]; exact cr : _ = nI (roM (aB A) i)) ?_
        exact Ev_ireturn rfl rfl rfl rfl ⟨by rw [if_neg g11_0, if_neg g11_1, if_pos h11_2], hC.same⟩
      · refine Ev_aload rfl rfl rfl ?_
        refine Ev_iload rfl rfl ?_
        refine Ev_callV rfl rfl rfl rfl rfl (same_n 402) (t_knowers _ hC.1.1 hC.2.1 hW hCS hSw hi) ?_
        rintro v72 ρ72 σ72 ⟨rfl, e72, g72⟩
        obtain rfl := e72.symm
        obtain rfl := g72.symm
        exact Ev_ireturn rfl rfl rfl rfl ⟨by rw [if_neg g11_0, if_neg g11_1, if_neg g11_2, if_pos h11_3], hC.same⟩
      · refine Ev_const rfl ?_
        exact Ev_ireturn rfl rfl rfl rfl ⟨by rw [if_neg g11_0, if_neg g11_1, if_neg g11_2, if_neg g11_3], hC.same⟩
    · have hρ := hM.1
      have mt := hM.2.1.2.1.1 i hi
      refine T_of rfl ?_
      refine Ev_aload rfl rfl rfl ?_
      refine Ev_iload rfl rfl ?_
      refine Ev_i2l rfl ?_
      refine Ev_callV rfl rfl rfl rfl rfl (same_n 402) (m_isIdea _ hρ hM.2.1.1 hW _) ?_
      rintro v3 ρ3 σ3 ⟨rfl, e3, g3⟩
      obtain rfl := e3.symm
      obtain rfl := g3.symm
      refine Ev_if_ne rfl (fun h6 => ?_) (fun h6 => absurd (by rw [l_of, ← hasF_eq, h]; decide) h6)
      refine Ev_iload rfl rfl ?_
      refine Ev_tab rfl rfl (swP_c (fun h12_0 => ?_) (fun g12_0 => swP_c (fun h12_1 => ?_) (fun g12_1 => swP_c (fun h12_2 => ?_) (fun g12_2 => swP_c (fun h12_3 => ?_) (fun g12_3 => swP_n ?_)))))
      · refine Ev_aload rfl rfl rfl ?_
        refine Ev_getR rfl (by first | rfl | assumption) (hρ _ _ _ rfl) ?_
        refine Ev_const rfl ?_
        refine Ev_iload rfl rfl ?_
        refine Ev_iadd rfl ?_
        refine Ev_norm (nI_add 8 i) ?_
        refine Ev_iald rfl (by first | rfl | assumption) (vp_in_nI (n := 8 + i) (show 8 + i < 16 by omega) (by decide)) ?_
        refine Ev_norm (by rw [nI_clamp (by omega)]; exact mt.1 : _ = nI (dep (aB A) i)) ?_
        exact Ev_ireturn rfl rfl rfl rfl ⟨by rw [if_pos h12_0], rfl, hM.same⟩
      · refine Ev_aload rfl rfl rfl ?_
        refine Ev_getR rfl (by first | rfl | assumption) (hρ _ _ _ rfl) ?_
        refine Ev_const rfl ?_
        refine Ev_iload rfl rfl ?_
        refine Ev_iadd rfl ?_
        refine Ev_norm (nI_add 8 i) ?_
        refine Ev_iald rfl (by first | rfl | assumption) (vp_in_nI (n := 8 + i) (show 8 + i < 16 by omega) (by decide)) ?_
        refine Ev_norm (by rw [nI_clamp (by omega)]; exact mt.2 : _ = nI (nee (aB A) i)) ?_
        exact Ev_ireturn rfl rfl rfl rfl ⟨by rw [if_neg g12_0, if_pos h12_1], rfl, hM.same⟩
      · refine Ev_aload rfl rfl rfl ?_
        refine Ev_iload rfl rfl ?_
        refine Ev_callV rfl rfl rfl rfl rfl (same_n 402) (m_rootsOf _ hρ hW hM.2.1.2.1 hWt hi) ?_
        rintro v66 ρ66 σ66 ⟨rfl, e66, g66⟩
        obtain rfl := e66.symm
        obtain rfl := g66.symm
        exact Ev_ireturn rfl rfl rfl rfl ⟨by rw [if_neg g12_0, if_neg g12_1, if_pos h12_2], rfl, hM.same⟩
      · refine Ev_aload rfl rfl rfl ?_
        refine Ev_iload rfl rfl ?_
        refine Ev_callV rfl rfl rfl rfl rfl (same_n 402) (m_knowersOf _ hρ hM.2.1.1 hW hM.2.2.2.1.2.1 hSw hi) ?_
        rintro v72 ρ72 σ72 ⟨rfl, e72, g72⟩
        obtain rfl := e72.symm
        obtain rfl := g72.symm
        exact Ev_ireturn rfl rfl rfl rfl ⟨by rw [if_neg g12_0, if_neg g12_1, if_neg g12_2, if_pos h12_3], rfl, hM.same⟩
      · refine Ev_const rfl ?_
        exact Ev_ireturn rfl rfl rfl rfl ⟨by rw [if_neg g12_0, if_neg g12_1, if_neg g12_2, if_neg g12_3], rfl, hM.same⟩
  · refine ⟨-1, A, hA, ?_, fun ρ σ hM => ?_⟩
    · refine T_of rfl ?_
      refine Ev_aload rfl rfl rfl ?_
      refine Ev_iload rfl rfl ?_
      refine Ev_callV rfl rfl rfl rfl rfl (same_n 402) ((t_hasX _ _ hC.1.1 hC.2.1 hW).1) ?_
      rintro v2 ρ2 σ2 ⟨rfl, e2, g2⟩
      obtain rfl := e2.symm
      obtain rfl := g2.symm
      refine Ev_if_ne rfl (fun h5 => absurd (by rw [has_no h]; rfl) h5) (fun h5 => ?_)
      refine Ev_const rfl ?_
      exact Ev_ireturn rfl rfl rfl rfl ⟨rfl, hC.same⟩
    · have hρ := hM.1
      refine T_of rfl ?_
      refine Ev_aload rfl rfl rfl ?_
      refine Ev_iload rfl rfl ?_
      refine Ev_i2l rfl ?_
      refine Ev_callV rfl rfl rfl rfl rfl (same_n 402) (m_isIdea _ hρ hM.2.1.1 hW _) ?_
      rintro v3 ρ3 σ3 ⟨rfl, e3, g3⟩
      obtain rfl := e3.symm
      obtain rfl := g3.symm
      refine Ev_if_ne rfl (fun h6 => absurd (by rw [l_of, ← hasF_eq, has_no h]; rfl) h6) (fun h6 => ?_)
      refine Ev_const rfl ?_
      exact Ev_ireturn rfl rfl rfl rfl ⟨rfl, rfl, hM.same⟩
theorem op_bather (a b : Int32) : OpI l X InvA 114 225 [.int a, .int b] := by
  refine op_of (fun A q ρ σ hA hC hρ => ?_)
  have hW := hA.1.1
  have hWt := hA.1.2.1
  have hWf := hA.1.2.2.1
  have n8 := hW.1
  have n6 := hW.2.1
  have nh : (aN A).1 ≤ 2000 := Nat.le_trans hA.2.1.1 (by decide)
  have hSw := hA.2.1.2.1
  have hle : ∀ b i, (aN A).2.1 b i ≤ 99 := fun b i => (hSw b i).1
  have hCS : CStr σ (aN A).2.1 := fun b hb i hi => rf_str hC hb hi
  by_cases h : hasF (nb (aB A)) a = true
  · obtain ⟨i, hi, rfl⟩ := hasF_of h
    have ct := hC.2.1.2.2.2.2.1.2 i hi
    refine ⟨(if b.toInt = 0 then nI (lun (aB A) i) else if b.toInt = 1 then nI (wit (aB A) i) else if b.toInt = 2 then nI (kset (ni (aB A)) ((aN A).2.1 i)) else if b.toInt = 3 then nI (rset (aB A) ((aN A).2.1 i) i (wit (aB A) i) (aN A).1 (tdM (aB A) (aN A).1)) else if b.toInt = 4 then nI (sumf 8 ((aN A).2.1 i)) else -1), A, hA, ?_, fun ρ σ hM => ?_⟩
    · refine T_of rfl ?_
      refine Ev_aload rfl rfl rfl ?_
      refine Ev_iload rfl rfl ?_
      refine Ev_callV rfl rfl rfl rfl rfl (same_n 402) ((t_hasX _ _ hC.1.1 hC.2.1 hW).2) ?_
      rintro v2 ρ2 σ2 ⟨rfl, e2, g2⟩
      obtain rfl := e2.symm
      obtain rfl := g2.symm
      refine Ev_if_ne rfl (fun h5 => ?_) (fun h5 => absurd (by rw [h]; decide) h5)
      refine Ev_iload rfl rfl ?_
      refine Ev_tab rfl rfl (swP_c (fun h11_0 => ?_) (fun g11_0 => swP_c (fun h11_1 => ?_) (fun g11_1 => swP_c (fun h11_2 => ?_) (fun g11_2 => swP_c (fun h11_3 => ?_) (fun g11_3 => swP_c (fun h11_4 => ?_) (fun g11_4 => swP_n ?_))))))
      · refine Ev_aload rfl rfl rfl ?_
        refine Ev_getR rfl (by first | rfl | assumption) hC.1.1 ?_
        refine Ev_getR rfl (by rcases hC.2.1.2.1 with rfl | rfl <;> rfl) (by rcases hC.2.1.2.1 with rfl | rfl <;> exact hρ _ _ _ rfl : _ = some (q + 6)) ?_
        refine Ev_iload rfl rfl ?_
        refine Ev_iald rfl (by rcases hC.2.1.2.1 with rfl | rfl <;> rfl) (by rcases hC.2.1.2.1 with rfl | rfl <;> exact vp_in_nI (n := i) (show i < 6 by omega) (by decide)) ?_
        refine Ev_norm (by rw [nI_clamp (by omega)]; exact ct.1 : _ = nI (lun (aB A) i)) ?_
        exact Ev_ireturn rfl rfl rfl rfl ⟨by rw [if_pos h11_0], hC.same⟩
      · refine Ev_aload rfl rfl rfl ?_
        refine Ev_getR rfl (by first | rfl | assumption) hC.1.1 ?_
        refine Ev_getR rfl (by rcases hC.2.1.2.1 with rfl | rfl <;> rfl) (by rcases hC.2.1.2.1 with rfl | rfl <;> exact hρ _ _ _ rfl : _ = some (q + 7)) ?_
        refine Ev_iload rfl rfl ?_
        refine Ev_iald rfl (by rcases hC.2.1.2.1 with rfl | rfl <;> rfl) (by rcases hC.2.1.2.1 with rfl | rfl <;> exact vp_in_nI (n := i) (show i < 6 by omega) (by decide)) ?_
        refine Ev_norm (by rw [nI_clamp (by omega)]; exact ct.2 : _ = nI (wit (aB A) i)) ?_
        exact Ev_ireturn rfl rfl rfl rfl ⟨by rw [if_neg g11_0, if_pos h11_1], hC.same⟩
      · refine Ev_aload rfl rfl rfl ?_
        refine Ev_getR rfl (by first | rfl | assumption) (hρ _ _ _ rfl) ?_
        refine Ev_getR rfl (by first | rfl | assumption) (hρ _ _ _ rfl) ?_
        refine Ev_iload rfl rfl ?_
        refine Ev_aald (t := 4) rfl (Or.inl rfl) (by first | rfl | assumption) (vp_in_nI (n := i) (show i < 6 by omega) (by decide)) (by rw [nI_clamp (by omega)]; exact rf33 hρ (by omega) : _ = some (34 + i)) ?_
        refine Ev_callS rfl rfl rfl rfl (same_n 402) (t_bitsKnown _ (rowN (by omega)) (hCS i (by omega)) (hle i)) ?_
        rintro v73 ρ73 σ73 ⟨rfl, e73, g73⟩
        obtain rfl := e73.symm
        obtain rfl := g73.symm
        refine Ev_norm (by rw [kset_8 hW (hSw.row i)] : _ = nI (kset (ni (aB A)) ((aN A).2.1 i))) ?_
        exact Ev_ireturn rfl rfl rfl rfl ⟨by rw [if_neg g11_0, if_neg g11_1, if_pos h11_2], hC.same⟩
      · refine Ev_aload rfl rfl rfl ?_
        refine Ev_iload rfl rfl ?_
        refine Ev_callV rfl rfl rfl rfl rfl (same_n 402) (t_lookAt _ hC.1.1 hC.2.1 hW hWf hC.2.2.2.1.1 hCS hSw nh hi) ?_
        rintro v79 ρ79 σ79 ⟨rfl, e79, s79, st79⟩
        obtain rfl := e79.symm
        refine Ev_aload rfl rfl rfl ?_
        refine Ev_getR rfl (by first | rfl | assumption) (hρ _ _ _ rfl) ?_
        refine Ev_callV rfl rfl rfl rfl rfl (same_n 402) (t_readyBits _ (hC.2.1.cl s79) hW hWt hWf st79 (wf9 hA i) nh (tdM_le _ _) hi) ?_
        rintro v86 ρ86 σ86 ⟨rfl, e86, s86⟩
        obtain rfl := e86.symm
        exact Ev_ireturn rfl rfl rfl rfl ⟨by rw [if_neg g11_0, if_neg g11_1, if_neg g11_2, if_pos h11_3], hC.pure ((s79.wk (fun _ _ h => cL_X h)).tr (s86.wk (fun _ _ h => cA_X h)))⟩
      · refine Ev_aload rfl rfl rfl ?_
        refine Ev_getR rfl (by first | rfl | assumption) (hρ _ _ _ rfl) ?_
        refine Ev_getR rfl (by first | rfl | assumption) (hρ _ _ _ rfl) ?_
        refine Ev_iload rfl rfl ?_
        refine Ev_aald (t := 4) rfl (Or.inl rfl) (by first | rfl | assumption) (vp_in_nI (n := i) (show i < 6 by omega) (by decide)) (by rw [nI_clamp (by omega)]; exact rf33 hρ (by omega) : _ = some (34 + i)) ?_
        refine Ev_callS rfl rfl rfl rfl (same_n 402) (t_sumOf _ (rowN (by omega)) (hCS i (by omega))) ?_
        rintro v99 ρ99 σ99 ⟨rfl, e99, g99⟩
        obtain rfl := e99.symm
        obtain rfl := g99.symm
        exact Ev_ireturn rfl rfl rfl rfl ⟨by rw [if_neg g11_0, if_neg g11_1, if_neg g11_2, if_neg g11_3, if_pos h11_4], hC.same⟩
      · refine Ev_const rfl ?_
        exact Ev_ireturn rfl rfl rfl rfl ⟨by rw [if_neg g11_0, if_neg g11_1, if_neg g11_2, if_neg g11_3, if_neg g11_4], hC.same⟩
    · have hρ := hM.1
      have mt := hM.2.1.2.1.2 i hi
      refine T_of rfl ?_
      refine Ev_aload rfl rfl rfl ?_
      refine Ev_iload rfl rfl ?_
      refine Ev_callV rfl rfl rfl rfl rfl (same_n 402) (m_isBather _ hρ hM.2.1.1 hW _) ?_
      rintro v2 ρ2 σ2 ⟨rfl, e2, g2⟩
      obtain rfl := e2.symm
      obtain rfl := g2.symm
      refine Ev_if_ne rfl (fun h5 => ?_) (fun h5 => absurd (by rw [← hasF_eq, h]; decide) h5)
      refine Ev_iload rfl rfl ?_
      refine Ev_tab rfl rfl (swP_c (fun h11_0 => ?_) (fun g11_0 => swP_c (fun h11_1 => ?_) (fun g11_1 => swP_c (fun h11_2 => ?_) (fun g11_2 => swP_c (fun h11_3 => ?_) (fun g11_3 => swP_c (fun h11_4 => ?_) (fun g11_4 => swP_n ?_))))))
      · refine Ev_aload rfl rfl rfl ?_
        refine Ev_getR rfl (by first | rfl | assumption) (hρ _ _ _ rfl) ?_
        refine Ev_const rfl ?_
        refine Ev_const rfl ?_
        refine Ev_iload rfl rfl ?_
        refine Ev_imul rfl ?_
        refine Ev_norm (pk_mul 2 i) ?_
        refine Ev_iadd rfl ?_
        refine Ev_norm (nI_add 12 (2 * i)) ?_
        refine Ev_iald rfl (by first | rfl | assumption) (vp_in_nI (n := 12 + 2 * i) (show 12 + 2 * i < 24 by omega) (by decide)) ?_
        refine Ev_norm (by rw [nI_clamp (by omega)]; exact mt.1 : _ = nI (lun (aB A) i)) ?_
        exact Ev_ireturn rfl rfl rfl rfl ⟨by rw [if_pos h11_0], rfl, hM.same⟩
      · refine Ev_aload rfl rfl rfl ?_
        refine Ev_iload rfl rfl ?_
        refine Ev_callV rfl rfl rfl rfl rfl (same_n 402) (m_witsOf _ hρ hW (hM.rd hW).2.2.2.1 hi) ?_
        rintro v58 ρ58 σ58 ⟨rfl, e58, g58⟩
        obtain rfl := e58.symm
        obtain rfl := g58.symm
        exact Ev_ireturn rfl rfl rfl rfl ⟨by rw [if_neg g11_0, if_pos h11_1], rfl, hM.same⟩
      · refine Ev_aload rfl rfl rfl ?_
        refine Ev_iload rfl rfl ?_
        refine Ev_callV rfl rfl rfl rfl rfl (same_n 402) (m_knownSet _ hρ hM.2.1.1 hW hM.2.2.2.1.2.1 (hle i) (by omega)) ?_
        rintro v64 ρ64 σ64 ⟨rfl, e64, g64⟩
        obtain rfl := e64.symm
        obtain rfl := g64.symm
        exact Ev_ireturn rfl rfl rfl rfl ⟨by rw [if_neg g11_0, if_neg g11_1, if_pos h11_2], rfl, hM.same⟩
      · refine Ev_aload rfl rfl rfl ?_
        refine Ev_callV rfl rfl rfl rfl rfl (same_n 402) (m_laysTide _ hρ (hM.rd hW) hM.2.1.2.2.1 hW hWt hWf hle (wf9 hA) nh) ?_
        rintro v69 ρ69 σ69 ⟨rfl, e69, t69⟩
        obtain rfl := e69.symm
        have hM1 := hM.mx t69.mx
        refine Ev_aload rfl rfl rfl ?_
        refine Ev_iload rfl rfl ?_
        refine Ev_callV rfl rfl rfl rfl rfl (same_n 402) (m_readySet _ hρ (hM1.rd hW) hM1.2.1.2.2.1 hW hWt hWf hle (wf9 hA) nh t69.2.2.2 (tdM_le _ _) hi) ?_
        rintro v74 ρ74 σ74 ⟨rfl, e74, t74⟩
        obtain rfl := e74.symm
        exact Ev_ireturn rfl rfl rfl rfl ⟨by rw [if_neg g11_0, if_neg g11_1, if_neg g11_2, if_pos h11_3], rfl, hM.pure (t69.mx.tr t74.mx)⟩
      · refine Ev_aload rfl rfl rfl ?_
        refine Ev_const rfl ?_
        refine Ev_const rfl ?_
        refine Ev_iload rfl rfl ?_
        refine Ev_imul rfl ?_
        refine Ev_norm (pk_mul 8 i) ?_
        refine Ev_iadd rfl ?_
        refine Ev_norm (nI_add 1 (8 * i)) ?_
        refine Ev_const rfl ?_
        refine Ev_callV rfl rfl rfl rfl rfl (same_n 402) (m_strengthAll _ (o := 1 + 8 * i) (n := 8) (g := (aN A).2.1 i) hρ (by omega) (fun k hk => hM.2.2.2.1.2.1 i k (by omega) hk)) ?_
        rintro v87 ρ87 σ87 ⟨rfl, e87, g87⟩
        obtain rfl := e87.symm
        obtain rfl := g87.symm
        exact Ev_ireturn rfl rfl rfl rfl ⟨by rw [if_neg g11_0, if_neg g11_1, if_neg g11_2, if_neg g11_3, if_pos h11_4], rfl, hM.same⟩
      · refine Ev_const rfl ?_
        exact Ev_ireturn rfl rfl rfl rfl ⟨by rw [if_neg g11_0, if_neg g11_1, if_neg g11_2, if_neg g11_3, if_neg g11_4], rfl, hM.same⟩
  · refine ⟨-1, A, hA, ?_, fun ρ σ hM => ?_⟩
    · refine T_of rfl ?_
      refine Ev_aload rfl rfl rfl ?_
      refine Ev_iload rfl rfl ?_
      refine Ev_callV rfl rfl rfl rfl rfl (same_n 402) ((t_hasX _ _ hC.1.1 hC.2.1 hW).2) ?_
      rintro v2 ρ2 σ2 ⟨rfl, e2, g2⟩
      obtain rfl := e2.symm
      obtain rfl := g2.symm
      refine Ev_if_ne rfl (fun h5 => absurd (by rw [has_no h]; rfl) h5) (fun h5 => ?_)
      refine Ev_const rfl ?_
      exact Ev_ireturn rfl rfl rfl rfl ⟨rfl, hC.same⟩
    · have hρ := hM.1
      refine T_of rfl ?_
      refine Ev_aload rfl rfl rfl ?_
      refine Ev_iload rfl rfl ?_
      refine Ev_callV rfl rfl rfl rfl rfl (same_n 402) (m_isBather _ hρ hM.2.1.1 hW _) ?_
      rintro v2 ρ2 σ2 ⟨rfl, e2, g2⟩
      obtain rfl := e2.symm
      obtain rfl := g2.symm
      refine Ev_if_ne rfl (fun h5 => absurd (by rw [← hasF_eq, has_no h]; rfl) h5) (fun h5 => ?_)
      refine Ev_const rfl ?_
      exact Ev_ireturn rfl rfl rfl rfl ⟨rfl, rfl, hM.same⟩
end S64
