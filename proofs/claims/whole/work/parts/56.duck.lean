/-! One is ducked. -/
theorem Stl.eq {σ σ' : St} {B : Bh} {row : Nat → Nat} {b w h tide : Nat} (H : Stl σ B row b w h tide) (h1 : σ'.1 266 = σ.1 266) (h2 : σ'.1 265 = σ.1 265) : Stl σ' B row b w h tide := by
  unfold Stl at H ⊢
  rw [h1, h2]; exact H
section S56
variable {l : Launch} {X : Cx}
theorem cA0_NP {k j : Nat} (h : cNP k j = false) : cA0 k j = false := cA_X (cX_NP h)
theorem cL_NP {k j : Nat} (h : cNP k j = false) : cL k j = false := cL_X (cX_NP h)
theorem op_duck (a b : Int32) : OpI l X InvA 131 254 [.int a, .int b] := by
  refine op_of (fun A q ρ σ hA hC hρ => ?_)
  have hW := hA.1.1
  have hWt := hA.1.2.1
  have hWf := hA.1.2.2.1
  have n8 := hW.1
  have n6 := hW.2.1
  have nh : (aN A).1 ≤ 2000 := Nat.le_trans hA.2.1.1 (by decide)
  have hSw := hA.2.1.2.1
  have hle : ∀ b i, (aN A).2.1 b i ≤ 99 := fun b i => (hSw b i).1
  have hCS : CStr σ (aN A).2.1 := fun b hb i hi => rf_str hC hb hi
  have no : ∀ (hno : ∀ x y : Nat, x < nb (aB A) → y < ni (aB A) → a = nI x → b = nI y → rdM (aB A) ((aN A).2.1 x) x (wit (aB A) x) (aN A).1 (tdM (aB A) (aN A).1) y = false), ∃ (r : Int32) (A' : Ab), WfA A' ∧ T l X 100 131 [.ref 0, .int a, .int b] 402 402 ρ σ (fun v ρ' σ' => v = some (.int r) ∧ RF ρ' ∧ upM σ σ' ∧ ∃ q', RC q' ρ' σ' A') ∧
      ∀ ρ σ, RM ρ σ A → T l X 100 254 [.ref 326, .int a, .int b] 402 402 ρ σ (fun v ρ' σ' => v = some (.int r) ∧ ρ' = ρ ∧ upC σ σ' ∧ RM ρ' σ' A') := by
    intro hno
    refine ⟨-1, sU A 2, hA.refu 2, ?_, fun ρ σ hM => ?_⟩
    · refine T_of rfl ?_
      refine Ev_aload rfl rfl rfl ?_
      refine Ev_iload rfl rfl ?_
      refine Ev_iload rfl rfl ?_
      refine Ev_callV rfl rfl rfl rfl rfl (same_n 402) (t_hasBoth _ _ _ hC.1.1 hC.2.1 hW) ?_
      rintro v3 ρ3 σ3 ⟨rfl, e3, g3⟩
      obtain rfl := e3.symm
      obtain rfl := g3.symm
      refine Ev_if_ne rfl (fun h6 => ?_) (fun h6 => ?_)
      · obtain ⟨ha, hb⟩ := Bool.and_eq_true_iff.mp (rt_of h6)
        obtain ⟨x, hx, rfl⟩ := hasF_of ha
        obtain ⟨y, hy, rfl⟩ := hasF_of hb
        refine Ev_aload rfl rfl rfl ?_
        refine Ev_iload rfl rfl ?_
        refine Ev_callV rfl rfl rfl rfl rfl (same_n 402) (t_lookAt _ hC.1.1 hC.2.1 hW hWf hC.2.2.2.1.1 hCS hSw nh hx) ?_
        rintro v17 ρ17 σ17 ⟨rfl, e17, s17, st17⟩
        obtain rfl := e17.symm
        refine Ev_aload rfl rfl rfl ?_
        refine Ev_getR rfl (by first | rfl | assumption) (hρ _ _ _ rfl) ?_
        refine Ev_iload rfl rfl ?_
        refine Ev_callV rfl rfl rfl rfl rfl (same_n 402) (t_isReady _ (hC.2.1.cl s17) hW hWt hWf st17 (wf9 hA x) nh (tdM_le _ _) hx hy) ?_
        rintro v25 ρ25 σ25 ⟨rfl, e25, s25⟩
        obtain rfl := e25.symm
        have f25 : CF cX σ σ25 := (s17.wk (fun _ _ h => cL_X h)).tr (s25.wk (fun _ _ h => cA_X h))
        refine Ev_if_ne rfl (fun h28 => absurd (by rw [hno x y hx hy rfl rfl]; rfl) h28) (fun h28 => ?_)
        refine Ev_aload rfl rfl rfl ?_
        refine Ev_const rfl ?_
        refine Ev_callV rfl rfl rfl rfl rfl (same_n 402) (t_refuse _ hρ (w := 2) (by decide)) ?_
        rintro v33 ρ33 σ33 ⟨rfl, e33, g33⟩
        obtain rfl := e33.symm
        obtain rfl := g33.symm
        exact Ev_ireturn rfl rfl rfl rfl ⟨rfl, hρ, (hC.pure f25).2.1.tr (upM.bump _), q, (hC.cx f25).refu (by decide)⟩
      · refine Ev_aload rfl rfl rfl ?_
        refine Ev_const rfl ?_
        refine Ev_callV rfl rfl rfl rfl rfl (same_n 402) (t_refuse _ hρ (w := 2) (by decide)) ?_
        rintro v11 ρ11 σ11 ⟨rfl, e11, g11⟩
        obtain rfl := e11.symm
        obtain rfl := g11.symm
        exact Ev_ireturn rfl rfl rfl rfl ⟨rfl, hρ, upM.bump _, q, hC.refu (by decide)⟩
    · have hρ := hM.1
      have hF := hM.2.1.2.2.1
      refine T_of rfl ?_
      refine Ev_aload rfl rfl rfl ?_
      refine Ev_callV rfl rfl rfl rfl rfl (same_n 402) (m_laysTide _ hρ (hM.rd hW) hF hW hWt hWf hle (wf9 hA) nh) ?_
      rintro v1 ρ1 σ1 ⟨rfl, e1, t1⟩
      obtain rfl := e1.symm
      have hM1 := hM.mx t1.mx
      refine Ev_aload rfl rfl rfl ?_
      refine Ev_iload rfl rfl ?_
      refine Ev_callV rfl rfl rfl rfl rfl (same_n 402) (m_isBather _ hρ hM1.2.1.1 hW _) ?_
      rintro v6 ρ6 σ6 ⟨rfl, e6, g6⟩
      obtain rfl := e6.symm
      obtain rfl := g6.symm
      refine Ev_if_eq rfl (fun h9 => ?_) (fun h9 => ?_)
      · refine Ev_aload rfl rfl rfl ?_
        refine Ev_const rfl ?_
        refine Ev_callV rfl rfl rfl rfl rfl (same_n 402) (m_refuses _ hρ (w := 2) (by decide)) ?_
        rintro v32 ρ32 σ32 ⟨rfl, e32, g32⟩
        obtain rfl := e32.symm
        obtain rfl := g32.symm
        exact Ev_ireturn rfl rfl rfl rfl ⟨rfl, rfl, (hM.pure t1.mx).1.tr (upC.bump _), hM1.refu (by decide)⟩
      · refine Ev_aload rfl rfl rfl ?_
        refine Ev_iload rfl rfl ?_
        refine Ev_i2l rfl ?_
        refine Ev_callV rfl rfl rfl rfl rfl (same_n 402) (m_isIdea _ hρ hM1.2.1.1 hW _) ?_
        rintro v15 ρ15 σ15 ⟨rfl, e15, g15⟩
        obtain rfl := e15.symm
        obtain rfl := g15.symm
        refine Ev_if_eq rfl (fun h18 => ?_) (fun h18 => ?_)
        · refine Ev_aload rfl rfl rfl ?_
          refine Ev_const rfl ?_
          refine Ev_callV rfl rfl rfl rfl rfl (same_n 402) (m_refuses _ hρ (w := 2) (by decide)) ?_
          rintro v32 ρ32 σ32 ⟨rfl, e32, g32⟩
          obtain rfl := e32.symm
          obtain rfl := g32.symm
          exact Ev_ireturn rfl rfl rfl rfl ⟨rfl, rfl, (hM.pure t1.mx).1.tr (upC.bump _), hM1.refu (by decide)⟩
        · obtain ⟨x, hx, rfl⟩ := in_of (of_decide_eq_true (rt_of h9))
          have hy0 := of_decide_eq_true (rt_of h18)
          rw [l_of] at hy0
          obtain ⟨y, hy, rfl⟩ := in_of hy0
          refine Ev_aload rfl rfl rfl ?_
          refine Ev_iload rfl rfl ?_
          refine Ev_iload rfl rfl ?_
          refine Ev_callV rfl rfl rfl rfl rfl (same_n 402) (m_isReady _ hρ (hM1.rd hW) hM1.2.1.2.2.1 hW hWt hWf hle (wf9 hA) nh t1.2.2.2 (tdM_le _ _) hx hy) ?_
          rintro v24 ρ24 σ24 ⟨rfl, e24, t24⟩
          obtain rfl := e24.symm
          refine Ev_if_ne rfl (fun h27 => absurd (by rw [hno x y hx hy rfl rfl]; rfl) h27) (fun h27 => ?_)
          refine Ev_aload rfl rfl rfl ?_
          refine Ev_const rfl ?_
          refine Ev_callV rfl rfl rfl rfl rfl (same_n 402) (m_refuses _ hρ (w := 2) (by decide)) ?_
          rintro v32 ρ32 σ32 ⟨rfl, e32, g32⟩
          obtain rfl := e32.symm
          obtain rfl := g32.symm
          exact Ev_ireturn rfl rfl rfl rfl ⟨rfl, rfl, (hM.pure (t1.mx.tr t24.mx)).1.tr (upC.bump _), (hM.mx (t1.mx.tr t24.mx)).refu (by decide)⟩
  by_cases h : (hasF (nb (aB A)) a && hasF (ni (aB A)) b) = true
  · obtain ⟨ha, hb⟩ := Bool.and_eq_true_iff.mp h
    obtain ⟨x, hx, rfl⟩ := hasF_of ha
    obtain ⟨y, hy, rfl⟩ := hasF_of hb
    cases hrd : rdM (aB A) ((aN A).2.1 x) x (wit (aB A) x) (aN A).1 (tdM (aB A) (aN A).1) y with
    | false =>
      refine no (fun x' y' hx' hy' e1 e2 => ?_)
      have := (nI_eq (by omega) (by omega)).mp e1
      have := (nI_eq (by omega) (by omega)).mp e2
      subst x'; subst y'; exact hrd
    | true =>
      have hkp := kpM_le (aB A) ((aN A).2.1 x) x (wit (aB A) x) (aN A).1 (tdM (aB A) (aN A).1) y
      refine ⟨nI (kpM (aB A) ((aN A).2.1 x) x (wit (aB A) x) (aN A).1 (tdM (aB A) (aN A).1) y), sP (sN A (nS (aN A) x y (kpM (aB A) ((aN A).2.1 x) x (wit (aB A) x) (aN A).1 (tdM (aB A) (aN A).1) y))) (pushP (aP A) (aN A)), hA.nowP (nS_wf hA.2.1 hx hy hkp.2), ?_, fun ρ σ hM => ?_⟩
      · refine T_of rfl ?_
        refine Ev_aload rfl rfl rfl ?_
        refine Ev_iload rfl rfl ?_
        refine Ev_iload rfl rfl ?_
        refine Ev_callV rfl rfl rfl rfl rfl (same_n 402) (t_hasBoth _ _ _ hC.1.1 hC.2.1 hW) ?_
        rintro v3 ρ3 σ3 ⟨rfl, e3, g3⟩
        obtain rfl := e3.symm
        obtain rfl := g3.symm
        refine Ev_if_ne rfl (fun h6 => ?_) (fun h6 => absurd (by rw [h]; decide) h6)
        refine Ev_aload rfl rfl rfl ?_
        refine Ev_iload rfl rfl ?_
        refine Ev_callV rfl rfl rfl rfl rfl (same_n 402) (t_lookAt _ hC.1.1 hC.2.1 hW hWf hC.2.2.2.1.1 hCS hSw nh hx) ?_
        rintro v17 ρ17 σ17 ⟨rfl, e17, s17, st17⟩
        obtain rfl := e17.symm
        refine Ev_aload rfl rfl rfl ?_
        refine Ev_getR rfl (by first | rfl | assumption) (hρ _ _ _ rfl) ?_
        refine Ev_iload rfl rfl ?_
        refine Ev_callV rfl rfl rfl rfl rfl (same_n 402) (t_isReady _ (hC.2.1.cl s17) hW hWt hWf st17 (wf9 hA x) nh (tdM_le _ _) hx hy) ?_
        rintro v25 ρ25 σ25 ⟨rfl, e25, s25⟩
        obtain rfl := e25.symm
        have f25 : CF cX σ σ25 := (s17.wk (fun _ _ h => cL_X h)).tr (s25.wk (fun _ _ h => cA_X h))
        have hC25 := hC.cx f25
        refine Ev_if_ne rfl (fun h28 => ?_) (fun h28 => absurd (by rw [hrd]; decide) h28)
        refine Ev_aload rfl rfl rfl ?_
        refine Ev_getR rfl (by first | rfl | assumption) (hρ _ _ _ rfl) ?_
        refine Ev_aload rfl rfl rfl ?_
        refine Ev_getR rfl (by first | rfl | assumption) (hρ _ _ _ rfl) ?_
        refine Ev_callV rfl rfl rfl rfl rfl (same_n 402) (t_push _ hρ hW hC25.2.2.2.1 hC25.2.2.2.2.1 hA.2.2.1.1) ?_
        rintro v45 ρ45 σ45 ⟨rfl, e45, p1, p2, p3⟩
        obtain rfl := e45.symm
        refine Ev_aload rfl rfl rfl ?_
        refine Ev_getR rfl (by first | rfl | assumption) (hρ _ _ _ rfl) ?_
        refine Ev_iload rfl rfl ?_
        refine Ev_callV rfl rfl rfl rfl rfl (same_n 402) (t_strengthBy _ (hC25.2.1.eq (fun k hk => p3 k (by omega)) ρ hρ rfl) hW hWt hWf ((st17.ca s25).eq (p3 _ (by omega)) (p3 _ (by omega))) (wf9 hA x) nh (tdM_le _ _) hx hy) ?_
        rintro v53 ρ53 σ53 ⟨rfl, e53, s53⟩
        obtain rfl := e53.symm
        refine Ev_istore rfl ?_
        refine Ev_aload rfl rfl rfl ?_
        refine Ev_getR rfl (by first | rfl | assumption) (hρ _ _ _ rfl) ?_
        refine Ev_getR rfl (by first | rfl | assumption) (hρ _ _ _ rfl) ?_
        refine Ev_iload rfl rfl ?_
        refine Ev_aald (t := 4) rfl (Or.inl rfl) (by first | rfl | assumption) (vp_in_nI (n := x) (show x < 6 by omega) (by decide)) (by rw [nI_clamp (by omega)]; exact rf33 hρ (by omega) : _ = some (34 + x)) ?_
        refine Ev_iload rfl rfl ?_
        refine Ev_iload rfl rfl ?_
        refine Ev_iast rfl ((rowN (show x < 6 by omega)).1) (by rw [(rowN (show x < 6 by omega)).2.1]; exact vp_in_nI (n := y) (show y < 8 by omega) (by decide)) ?_
        rw [nI_clamp (show y < 2 ^ 31 by omega)]
        refine Ev_iload rfl rfl ?_
        exact Ev_ireturn rfl rfl rfl rfl (by
        have f1 := (((f25.wk (fun _ _ h => cX_NP h)).tr (fr_push p2 p3)).tr (s53.wk (fun _ _ h => cA0_NP h))).tr (fr_now (σ := σ53) (k := 34 + x) (j := y) (x := nI (kpM (aB A) ((aN A).2.1 x) x (wit (aB A) x) (aN A).1 (tdM (aB A) (aN A).1) y)) (by omega) (by omega))
        have hn0 : CMo σ45 32 (aB A) (aN A) := hC25.2.2.2.1.eq (fun r hr => p3 _ (by omega))
        have hn : CMo σ53 32 (aB A) (aN A) := hn0.cf s53 (fun k j k1 k2 => cA_X (cX_f (by omega)))
        have hp0 : CPas σ53 (aB A) (pushP (aP A) (aN A)) := p1.cf s53 (fun k j k1 k2 => cA_X (cX_f (by omega)))
        have hp : CPas (sI σ53 (34 + x) (upd (σ53.1 (34 + x)) y (nI (kpM (aB A) ((aN A).2.1 x) x (wit (aB A) x) (aN A).1 (tdM (aB A) (aN A).1) y)))) (aB A) (pushP (aP A) (aN A)) := hp0.cf (CF.cell (C := fun k _ => Nat.beq k (34 + x)) σ53 _ (fun _ => Nat.beq_refl _)) (fun k j k1 k2 => nbeq (by omega))
        exact ⟨rfl, hρ, cNP_up f1, q, hC.nowP f1 (hn.put (show x < 6 by omega)) hp⟩)
      · have hρ := hM.1
        have hF := hM.2.1.2.2.1
        refine T_of rfl ?_
        refine Ev_aload rfl rfl rfl ?_
        refine Ev_callV rfl rfl rfl rfl rfl (same_n 402) (m_laysTide _ hρ (hM.rd hW) hF hW hWt hWf hle (wf9 hA) nh) ?_
        rintro v1 ρ1 σ1 ⟨rfl, e1, t1⟩
        obtain rfl := e1.symm
        have hM1 := hM.mx t1.mx
        refine Ev_aload rfl rfl rfl ?_
        refine Ev_iload rfl rfl ?_
        refine Ev_callV rfl rfl rfl rfl rfl (same_n 402) (m_isBather _ hρ hM1.2.1.1 hW _) ?_
        rintro v6 ρ6 σ6 ⟨rfl, e6, g6⟩
        obtain rfl := e6.symm
        obtain rfl := g6.symm
        refine Ev_if_eq rfl (fun h9 => absurd h9 (by rw [show decide (0 ≤ (nI x).toInt ∧ (nI x).toInt < (nb (aB A) : Int)) = true from ha]; decide)) (fun h9 => ?_)
        refine Ev_aload rfl rfl rfl ?_
        refine Ev_iload rfl rfl ?_
        refine Ev_i2l rfl ?_
        refine Ev_callV rfl rfl rfl rfl rfl (same_n 402) (m_isIdea _ hρ hM1.2.1.1 hW _) ?_
        rintro v15 ρ15 σ15 ⟨rfl, e15, g15⟩
        obtain rfl := e15.symm
        obtain rfl := g15.symm
        refine Ev_if_eq rfl (fun h18 => absurd h18 (by rw [l_of, show decide (0 ≤ (nI y).toInt ∧ (nI y).toInt < (ni (aB A) : Int)) = true from hb]; decide)) (fun h18 => ?_)
        refine Ev_aload rfl rfl rfl ?_
        refine Ev_iload rfl rfl ?_
        refine Ev_iload rfl rfl ?_
        refine Ev_callV rfl rfl rfl rfl rfl (same_n 402) (m_isReady _ hρ (hM1.rd hW) hM1.2.1.2.2.1 hW hWt hWf hle (wf9 hA) nh t1.2.2.2 (tdM_le _ _) hx hy) ?_
        rintro v24 ρ24 σ24 ⟨rfl, e24, t24⟩
        obtain rfl := e24.symm
        have hM2 := hM1.mx t24.mx
        refine Ev_if_ne rfl (fun h27 => ?_) (fun h27 => absurd (by rw [hrd]; decide) h27)
        refine Ev_aload rfl rfl rfl ?_
        refine Ev_callV rfl rfl rfl rfl rfl (same_n 402) (m_stores _ hρ hW hM2.2.2.2.1 hA.2.1.2.2.2 (MPas.st hM2) hA.2.2.1.1 (h40s hA)) ?_
        rintro v37 ρ37 σ37 ⟨rfl, e37, p1, p2⟩
        obtain rfl := e37.symm
        refine Ev_aload rfl rfl rfl ?_
        refine Ev_iload rfl rfl ?_
        refine Ev_iload rfl rfl ?_
        refine Ev_callV rfl rfl rfl rfl rfl (same_n 402) (m_keptOf _ hρ ((hM2.rd hW).mf p2 rfl rfl) (hM2.2.1.2.2.1.mf p2 rfl) hW hWt hWf hle (wf9 hA) nh (by rw [p2.2.2 58 rfl, t24.2.2 58 rfl]; exact t1.2.2.2) (tdM_le _ _) hx hy) ?_
        rintro v43 ρ43 σ43 ⟨rfl, e43, t43⟩
        obtain rfl := e43.symm
        refine Ev_istore rfl ?_
        refine Ev_aload rfl rfl rfl ?_
        refine Ev_getR rfl (by first | rfl | assumption) (hρ _ _ _ rfl) ?_
        refine Ev_const rfl ?_
        refine Ev_const rfl ?_
        refine Ev_iload rfl rfl ?_
        refine Ev_imul rfl ?_
        refine Ev_norm (pk_mul 8 x) ?_
        refine Ev_iadd rfl ?_
        refine Ev_norm (nI_add 1 (8 * x)) ?_
        refine Ev_iload rfl rfl ?_
        refine Ev_iadd rfl ?_
        refine Ev_norm (nI_add (1 + 8 * x) y) ?_
        refine Ev_iload rfl rfl ?_
        refine Ev_iast rfl (by first | rfl | assumption) (vp_in_nI (n := 1 + 8 * x + y) (show 1 + 8 * x + y < 242 by omega) (by decide)) ?_
        rw [nI_clamp (show 1 + 8 * x + y < 2 ^ 31 by omega)]
        refine Ev_iload rfl rfl ?_
        exact Ev_ireturn rfl rfl rfl rfl (by
        have f0 : MF scK scG σ σ24 := (t1.mx.tr t24.mx).wk (fun _ q => scC_K q) (fun _ q => scF_G q)
        have f1 := ((f0.tr (mf_store p2)).tr (mf_sc t43)).tr (mf_now (σ := σ43) (upd (σ43.1 365) (1 + 8 * x + y) (nI (kpM (aB A) ((aN A).2.1 x) x (wit (aB A) x) (aN A).1 (tdM (aB A) (aN A).1) y))))
        have hn : MMo (σ43.1 365) (aB A) (aN A) := by rw [t43.1 365 (by decide), p2.1 365 (by decide) rfl]; exact hM2.2.2.2.1
        exact ⟨rfl, rfl, scK_up f1, hM.nowP f1 (by rw [sR_0]; exact hn.put (by omega) (by omega)) ((p1.mf t43.mx rfl rfl).mf (MF.cell (C := fun q => Nat.beq q 365) (Fd := cN0) _ (by decide) rfl) rfl rfl)⟩)
  · exact no (fun x y hx hy e1 e2 => absurd (by subst e1; subst e2; rw [hasF_nI hx (by omega), hasF_nI hy (by omega)]; rfl) h)
end S56
