/-! A beach read by the reference: needs, bathers, the plan. -/
theorem MTt.badO {σ : St} {U : Tx} {s : Rdg} (H : MTt σ U s) (h : isOk s = true) : σ.1 326 5 = 0 := by
  cases s with
  | inl e => cases h
  | inr p => exact H.bad0
theorem MTt.badN {σ : St} {U : Tx} {s : Rdg} (H : MTt σ U s) (h : isOk s = false) : ∃ x, σ.1 326 5 = x ∧ ¬ x = 0 := by
  obtain ⟨e, rfl⟩ := not_inl h
  exact H.badE
section S88zw
variable {l : Launch} {X : Cx} {ρ : Rf} {U : Tx} {Bo B : Bh}
theorem m_batherTold (d : Nat) {σ : St} {s : Rdg} {a : Nat} (hρ : RF ρ) (hT : TxW U) (hB : WfB B) (hI : Ivr U s) (H : MSt σ U Bo B s) :
    T l X (d + 5) 185 [.ref 326, .int (nI a)] 402 402 ρ σ (StQ U Bo ρ σ (btR U a (s, B))) := by
  have hn6 : nb B ≤ 6 := hB.1.2.1
  have hn8 := hB.1.1
  cases ho : isOk (btS a (s, B)) with
  | false =>
    obtain ⟨e, he⟩ := not_inl ho
    have eR := btR_l (U := U) he
    refine T_of rfl ?_
    refine Ev_aload rfl rfl rfl ?_
    refine Ev_const rfl ?_
    refine Ev_const rfl ?_
    refine Ev_iload rfl rfl ?_
    refine Ev_callV rfl rfl rfl rfl rfl (same_n 402) (m_isFull _ (kind := 1) (room := 6) (a := a) (s := s) hρ hB (by decide) (by decide) hn6 H) ?_
    rintro v5 ρ5 σ5 ⟨rfl, e5, s5, c5⟩
    refine Ev_norm (congrArg (fun b => bI (!b)) ho : _ = bI true) ?_
    obtain rfl := e5.symm
    refine Ev_if_eq rfl (fun h8 => absurd h8 (show ¬ bI true = 0 by decide)) (fun h8 => ?_)
    exact Ev_return rfl rfl rfl (by
    have s5 : MTt σ5 U (btS a (s, B)) := s5
    rw [he] at s5
    exact ⟨rfl, rfl, by rw [eR]; exact s5, H.2.1.mx c5, (H.mx s5 c5).2.2.1, (fun z => by rw [eR] at z; cases z), c5.k⟩)
  | true =>
    obtain ⟨r1, r2⟩ := room_ok ho
    have r1 : btS a (s, B) = s := r1
    have r2 : nb B < 6 := r2
    have hI2 : Ivr U (aWd U (kw 6) (nwN U B s)) := Ivr_aW (Ivr_nw hI) (by decide)
    have hI3 : Ivr U (aNu U 9 (aWd U (kw 6) (nwN U B s))) := Ivr_aN hI2
    have hI4 : Ivr U (aWd U (kw 7) (aNu U 9 (aWd U (kw 6) (nwN U B s)))) := Ivr_aW hI3 (by decide)
    have eR : btR U a (s, B) = (aNu U 9 (aWd U (kw 7) (aNu U 9 (aWd U (kw 6) (nwN U B s)))), adB B (vNm U s) (vNu U 9 (aWd U (kw 6) (nwN U B s))) (vNu U 9 (aWd U (kw 7) (aNu U 9 (aWd U (kw 6) (nwN U B s)))))) := by
      unfold btR btD btC btB btA
      rw [r1]
    rw [eR]
    refine T_of rfl ?_
    refine Ev_aload rfl rfl rfl ?_
    refine Ev_const rfl ?_
    refine Ev_const rfl ?_
    refine Ev_iload rfl rfl ?_
    refine Ev_callV rfl rfl rfl rfl rfl (same_n 402) (m_isFull _ (kind := 1) (room := 6) (a := a) (s := s) hρ hB (by decide) (by decide) hn6 H) ?_
    rintro v5 ρ5 σ5 ⟨rfl, e5, s5, c5⟩
    refine Ev_norm (congrArg (fun b => bI (!b)) ho : _ = bI false) ?_
    obtain rfl := e5.symm
    have s5 : MTt σ5 U (btS a (s, B)) := s5
    rw [r1] at s5
    refine Ev_if_eq rfl (fun h8 => ?_) (fun h8 => absurd rfl h8)
    refine Ev_aload rfl rfl rfl ?_
    refine Ev_callV rfl rfl rfl rfl rfl (same_n 402) (m_newName _ hρ hT hB hI (H.mx s5 c5)) ?_
    rintro v13 ρ13 σ13 ⟨⟨x, rfl, hx⟩, e13, s13, n13, c13⟩
    obtain rfl := e13.symm
    refine Ev_lstore rfl ?_
    refine Ev_aload rfl rfl rfl ?_
    refine Ev_aload rfl rfl rfl ?_
    refine Ev_getR rfl (by first | rfl | assumption) (hρ _ _ _ rfl) ?_
    refine Ev_callV rfl rfl rfl rfl rfl (same_n 402) (m_asks _ hρ hT ((H.2.1.mx c5).mx c13) (k := 334) (w := kw 6) (by decide) s13) ?_
    rintro v22 ρ22 σ22 ⟨rfl, e22, s22, c22⟩
    obtain rfl := e22.symm
    rw [mAk_a (Ivr_nw hI) (by decide)] at s22
    refine Ev_aload rfl rfl rfl ?_
    refine Ev_const rfl ?_
    refine Ev_const rfl ?_
    refine Ev_callV rfl rfl rfl rfl rfl (same_n 402) (m_number _ (most := 9) hρ hT (by decide) s22) ?_
    rintro v29 ρ29 σ29 ⟨⟨y, rfl, hy⟩, e29, s29, c29⟩
    obtain rfl := e29.symm
    rw [mNu_a hI2] at s29 hy
    refine Ev_istore rfl ?_
    refine Ev_aload rfl rfl rfl ?_
    refine Ev_aload rfl rfl rfl ?_
    refine Ev_getR rfl (by first | rfl | assumption) (hρ _ _ _ rfl) ?_
    refine Ev_callV rfl rfl rfl rfl rfl (same_n 402) (m_asks _ hρ hT ((((H.2.1.mx c5).mx c13).mx c22).mx c29) (k := 335) (w := kw 7) (by decide) s29) ?_
    rintro v39 ρ39 σ39 ⟨rfl, e39, s39, c39⟩
    obtain rfl := e39.symm
    rw [mAk_a hI3 (by decide)] at s39
    refine Ev_aload rfl rfl rfl ?_
    refine Ev_const rfl ?_
    refine Ev_const rfl ?_
    refine Ev_callV rfl rfl rfl rfl rfl (same_n 402) (m_number _ (most := 9) hρ hT (by decide) s39) ?_
    rintro v46 ρ46 σ46 ⟨⟨y2, rfl, hy2⟩, e46, s46, c46⟩
    obtain rfl := e46.symm
    rw [mNu_a hI4] at s46 hy2
    refine Ev_istore rfl ?_
    have cc : MX σ σ46 := ((((c5.tr c13).tr c22).tr c29).tr c39).tr c46
    have H46 := H.mx s46 cc
    cases hf : isOk (aNu U 9 (aWd U (kw 7) (aNu U 9 (aWd U (kw 6) (nwN U B s))))) with
    | false =>
      obtain ⟨z, hz, hz0⟩ := s46.badN hf
      refine Ev_aload rfl rfl rfl ?_
      refine Ev_getI rfl (by first | rfl | assumption) ?_
      refine Ev_norm hz ?_
      refine Ev_if_eq rfl (fun h55 => absurd h55 hz0) (fun h55 => ?_)
      exact Ev_return rfl rfl rfl ⟨rfl, rfl, s46, H46.2.1, H46.2.2.1, (fun z => by have z : isOk (aNu U 9 (aWd U (kw 7) (aNu U 9 (aWd U (kw 6) (nwN U B s))))) = true := z; rw [hf] at z; cases z), cc.k⟩
    | true =>
      have hf2 := (aW_ok (aN_ok hf).1).1
      have hy2 := hy2 hf
      rw [vU_m hI4 hf] at hy2
      have hy := hy hf2
      rw [vU_m hI2 hf2] at hy
      have hx := hx (aW_ok (aN_ok hf2).1).1
      subst hx hy hy2
      have hz := s46.badO hf
      refine Ev_aload rfl rfl rfl ?_
      refine Ev_getI rfl (by first | rfl | assumption) ?_
      refine Ev_norm hz ?_
      refine Ev_if_eq rfl (fun h55 => ?_) (fun h55 => absurd rfl h55)
      refine Ev_aload rfl rfl rfl ?_
      refine Ev_getR rfl (by first | rfl | assumption) (hρ _ _ _ rfl) ?_
      refine Ev_const rfl ?_
      refine Ev_iald rfl (by first | rfl | assumption) (vp_in_nI (n := 1) (by decide) (by decide)) ?_
      refine Ev_norm (show _ = nI (nb B) from H46.2.2.2.1 1 (by decide)) ?_
      refine Ev_istore rfl ?_
      refine Ev_aload rfl rfl rfl ?_
      refine Ev_getR rfl (by first | rfl | assumption) (hρ _ _ _ rfl) ?_
      refine Ev_const rfl ?_
      refine Ev_iload rfl rfl ?_
      refine Ev_iadd rfl ?_
      refine Ev_norm (nI_add 8 (nb B)) ?_
      refine Ev_lload rfl rfl ?_
      refine Ev_last rfl (by first | rfl | assumption) (vp_in_nI (n := 8 + nb B) (show 8 + nb B < 32 by omega) (by decide)) ?_
      refine Ev_aload rfl rfl rfl ?_
      refine Ev_getR rfl (by first | rfl | assumption) (hρ _ _ _ rfl) ?_
      refine Ev_const rfl ?_
      refine Ev_iload rfl rfl ?_
      refine Ev_imul rfl ?_
      refine Ev_norm (pk_mul 2 (nb B)) ?_
      refine Ev_iload rfl rfl ?_
      refine Ev_iast rfl (by first | rfl | assumption) (vp_in_nI (n := 2 * nb B) (show 2 * nb B < 24 by omega) (by decide)) ?_
      refine Ev_aload rfl rfl rfl ?_
      refine Ev_getR rfl (by first | rfl | assumption) (hρ _ _ _ rfl) ?_
      refine Ev_const rfl ?_
      refine Ev_iload rfl rfl ?_
      refine Ev_imul rfl ?_
      refine Ev_norm (pk_mul 2 (nb B)) ?_
      refine Ev_const rfl ?_
      refine Ev_iadd rfl ?_
      refine Ev_norm (nI_1 (2 * nb B)) ?_
      refine Ev_iload rfl rfl ?_
      refine Ev_iast rfl (by first | rfl | assumption) (vp_in_nI (n := 2 * nb B + 1) (show 2 * nb B + 1 < 24 by omega) (by decide)) ?_
      refine Ev_aload rfl rfl rfl ?_
      refine Ev_getR rfl (by first | rfl | assumption) (hρ _ _ _ rfl) ?_
      refine Ev_const rfl ?_
      refine Ev_dup2 rfl (fun _ q => nomatch q) (fun _ q => nomatch q) ?_
      refine Ev_iald rfl (by first | rfl | assumption) (vp_in_nI (n := 1) (by decide) (by decide)) ?_
      refine Ev_norm (show _ = nI (nb B) by rw [sR_1 _ _ (by decide), sR_1 _ _ (by decide)]; exact H46.2.2.2.1 1 (by decide)) ?_
      refine Ev_const rfl ?_
      refine Ev_iadd rfl ?_
      refine Ev_norm (nI_1 (nb B)) ?_
      refine Ev_iast rfl (by first | rfl | assumption) (vp_in_nI (n := 1) (by decide) (by decide)) ?_
      exact Ev_return rfl rfl rfl (by
      rw [nI_clamp (show 8 + nb B < 2 ^ 31 by omega), nI_clamp (show 2 * nb B < 2 ^ 31 by omega), nI_clamp (show 2 * nb B + 1 < 2 ^ 31 by omega)]
      refine ⟨rfl, rfl, s46.kc ?_ ?_, ?_, ?_, fun _ => H46.2.2.2.adB (nm := vNm U s) ?_ ?_ ?_ ?_ ?_ hn8, (((cc.k.tr (MRe.name _)).tr (MRe.cell _ (by decide) rfl)).tr (MRe.cell _ (by decide) rfl)).tr (MRe.cell _ (by decide) rfl)⟩
      · rw [sR_1 _ _ (by decide), sR_1 _ _ (by decide), sR_1 _ _ (by decide)]; rfl
      · intro j hj; rw [sR_1 _ _ (by decide), sR_1 _ _ (by decide), sR_1 _ _ (by decide)]; rfl
      · exact H46.2.1.k ((((MRe.name _)).tr (MRe.cell _ (by decide) rfl)).tr (MRe.cell _ (by decide) rfl) |>.tr (MRe.cell _ (by decide) rfl))
      · refine H46.2.2.1.up (fun j hj => ?_) (fun j hj => ⟨?_, ?_⟩) (fun j hj => ?_) (fun j hj => ⟨?_, ?_⟩) (fun j hj => ?_) (fun j hj => ?_)
        · rw [sR_0, pk_un (by have : (1 : Int32).toNatClampNeg = 1 := rfl; omega), sR_1 _ _ (by decide), sR_1 _ _ (by decide)]; rfl
        · rw [sR_1 _ _ (by decide), sR_1 _ _ (by decide), sR_1 _ _ (by decide)]; rfl
        · rw [sR_1 _ _ (by decide), sR_1 _ _ (by decide), sR_1 _ _ (by decide)]; rfl
        · rw [sR_1 _ _ (by decide), sR_0, pk_un (by omega), sR_0, pk_un (by omega)]; rfl
        · rw [sR_1 _ _ (by decide), sR_1 _ _ (by decide), sR_1 _ _ (by decide)]; rfl
        · rw [sR_1 _ _ (by decide), sR_1 _ _ (by decide), sR_1 _ _ (by decide)]; rfl
        · rw [sR_1 _ _ (by decide), sR_1 _ _ (by decide), sR_1 _ _ (by decide)]; rfl
        · show (sL σ46 357 (vp_updL (σ46.2 357) (8 + nb B) (lI ((n27 0 (vNm U s) : Nat) : Int)))).2 357 j = _; rw [sL_0, updL_n (by omega)]
      · show (sL σ46 357 (vp_updL (σ46.2 357) (8 + nb B) (lI ((n27 0 (vNm U s) : Nat) : Int)))).2 357 = _; rw [sL_0]
      · rw [sR_1 _ _ (by decide), sR_0, sR_0]; rfl
      · rw [sR_0, sR_1 _ _ (by decide), sR_1 _ _ (by decide)]; rfl
      · intro q hq
        simp only [List.mem_cons, List.not_mem_nil, or_false] at hq
        rcases hq with rfl | rfl | rfl | rfl | rfl | rfl <;> (rw [sR_1 _ _ (by decide), sR_1 _ _ (by decide), sR_1 _ _ (by decide)]; rfl)
      · rw [sR_1 _ _ (by decide), sR_1 _ _ (by decide), sR_1 _ _ (by decide)]; rfl)
theorem m_planTold (d : Nat) {σ : St} {s : Rdg} {a : Nat} (hρ : RF ρ) (hT : TxW U) (hB : WfB B) (hI : Ivr U s) (H : MSt σ U Bo B s) :
    T l X (d + 5) 186 [.ref 326, .int (nI a)] 402 402 ρ σ (StQ U Bo ρ σ (plR U a (s, B))) := by
  have hn16 : np B ≤ 16 := hB.1.2.2.2.1
  cases ho : isOk (plS a (s, B)) with
  | false =>
    obtain ⟨e, he⟩ := not_inl ho
    have eR := plR_l (U := U) he
    refine T_of rfl ?_
    refine Ev_aload rfl rfl rfl ?_
    refine Ev_const rfl ?_
    refine Ev_const rfl ?_
    refine Ev_iload rfl rfl ?_
    refine Ev_callV rfl rfl rfl rfl rfl (same_n 402) (m_isFull _ (kind := 3) (room := 16) (a := a) (s := s) hρ hB (by decide) (by decide) hn16 H) ?_
    rintro v5 ρ5 σ5 ⟨rfl, e5, s5, c5⟩
    refine Ev_norm (congrArg (fun b => bI (!b)) ho : _ = bI true) ?_
    obtain rfl := e5.symm
    refine Ev_if_eq rfl (fun h8 => absurd h8 (show ¬ bI true = 0 by decide)) (fun h8 => ?_)
    exact Ev_return rfl rfl rfl (by
    have s5 : MTt σ5 U (plS a (s, B)) := s5
    rw [he] at s5
    exact ⟨rfl, rfl, by rw [eR]; exact s5, H.2.1.mx c5, (H.mx s5 c5).2.2.1, (fun z => by rw [eR] at z; cases z), c5.k⟩)
  | true =>
    obtain ⟨r1, r2⟩ := room_ok ho
    have r1 : plS a (s, B) = s := r1
    have r2 : np B < 16 := r2
    have hI2 : Ivr U (aWd U (kw 9) (tdN U (nb B) (nmB B) s)) := Ivr_aW (Ivr_td hI) (by decide)
    have eR : plR U a (s, B) = (tdN U (ni B) (nmI B) (aWd U (kw 9) (tdN U (nb B) (nmB B) s)), adP B (fnd (nb B) (nmB B) (vNm U s)) (fnd (ni B) (nmI B) (vNm U (aWd U (kw 9) (tdN U (nb B) (nmB B) s))))) := by
      unfold plR plB plA
      rw [r1]
    rw [eR]
    refine T_of rfl ?_
    refine Ev_aload rfl rfl rfl ?_
    refine Ev_const rfl ?_
    refine Ev_const rfl ?_
    refine Ev_iload rfl rfl ?_
    refine Ev_callV rfl rfl rfl rfl rfl (same_n 402) (m_isFull _ (kind := 3) (room := 16) (a := a) (s := s) hρ hB (by decide) (by decide) hn16 H) ?_
    rintro v5 ρ5 σ5 ⟨rfl, e5, s5, c5⟩
    refine Ev_norm (congrArg (fun b => bI (!b)) ho : _ = bI false) ?_
    obtain rfl := e5.symm
    have s5 : MTt σ5 U (plS a (s, B)) := s5
    rw [r1] at s5
    refine Ev_if_eq rfl (fun h8 => ?_) (fun h8 => absurd rfl h8)
    refine Ev_aload rfl rfl rfl ?_
    refine Ev_const rfl ?_
    refine Ev_callV rfl rfl rfl rfl rfl (same_n 402) (m_named _ (kind := 1) hρ hT hB (by decide) hI (H.mx s5 c5)) ?_
    rintro v14 ρ14 σ14 ⟨⟨x, rfl, hx⟩, e14, s14, n14, c14⟩
    obtain rfl := e14.symm
    have s14 : MTt σ14 U (tdN U (nb B) (nmB B) s) := s14
    refine Ev_istore rfl ?_
    refine Ev_aload rfl rfl rfl ?_
    refine Ev_aload rfl rfl rfl ?_
    refine Ev_getR rfl (by first | rfl | assumption) (hρ _ _ _ rfl) ?_
    refine Ev_callV rfl rfl rfl rfl rfl (same_n 402) (m_asks _ hρ hT ((H.2.1.mx c5).mx c14) (k := 337) (w := kw 9) (by decide) s14) ?_
    rintro v23 ρ23 σ23 ⟨rfl, e23, s23, c23⟩
    obtain rfl := e23.symm
    rw [mAk_a (Ivr_td hI) (by decide)] at s23
    refine Ev_aload rfl rfl rfl ?_
    refine Ev_const rfl ?_
    refine Ev_callV rfl rfl rfl rfl rfl (same_n 402) (m_named _ (kind := 0) hρ hT hB (by decide) hI2 (((H.mx s5 c5).mx s14 c14).mx s23 c23)) ?_
    rintro v28 ρ28 σ28 ⟨⟨y, rfl, hy⟩, e28, s28, n28, c28⟩
    obtain rfl := e28.symm
    have s28 : MTt σ28 U (tdN U (ni B) (nmI B) (aWd U (kw 9) (tdN U (nb B) (nmB B) s))) := s28
    refine Ev_istore rfl ?_
    have cc : MX σ σ28 := ((c5.tr c14).tr c23).tr c28
    have H28 := H.mx s28 cc
    cases hf : isOk (tdN U (ni B) (nmI B) (aWd U (kw 9) (tdN U (nb B) (nmB B) s))) with
    | false =>
      obtain ⟨z, hz, hz0⟩ := s28.badN hf
      refine Ev_aload rfl rfl rfl ?_
      refine Ev_getI rfl (by first | rfl | assumption) ?_
      refine Ev_norm hz ?_
      refine Ev_if_eq rfl (fun h36 => absurd h36 hz0) (fun h36 => ?_)
      exact Ev_return rfl rfl rfl ⟨rfl, rfl, s28, H28.2.1, H28.2.2.1, (fun z => by have z : isOk (tdN U (ni B) (nmI B) (aWd U (kw 9) (tdN U (nb B) (nmB B) s))) = true := z; rw [hf] at z; cases z), cc.k⟩
    | true =>
      obtain ⟨f1, f2, f3⟩ := tdN_ok hf
      have f4 := (aW_ok (aM_ok f1).1).1
      have hy : y = nI (fnd (ni B) (nmI B) (vNm U (aWd U (kw 9) (tdN U (nb B) (nmB B) s)))) := hy hf
      have hx : x = nI (fnd (nb B) (nmB B) (vNm U s)) := hx f4
      subst hx hy
      have hz := s28.badO hf
      refine Ev_aload rfl rfl rfl ?_
      refine Ev_getI rfl (by first | rfl | assumption) ?_
      refine Ev_norm hz ?_
      refine Ev_if_eq rfl (fun h36 => ?_) (fun h36 => absurd rfl h36)
      refine Ev_aload rfl rfl rfl ?_
      refine Ev_getR rfl (by first | rfl | assumption) (hρ _ _ _ rfl) ?_
      refine Ev_const rfl ?_
      refine Ev_aload rfl rfl rfl ?_
      refine Ev_getR rfl (by first | rfl | assumption) (hρ _ _ _ rfl) ?_
      refine Ev_const rfl ?_
      refine Ev_iald rfl (by first | rfl | assumption) (vp_in_nI (n := 3) (by decide) (by decide)) ?_
      refine Ev_norm (show _ = nI (np B) from H28.2.2.2.1 3 (by decide)) ?_
      refine Ev_imul rfl ?_
      refine Ev_norm (pk_mul 2 (np B)) ?_
      refine Ev_iload rfl rfl ?_
      refine Ev_iast rfl (by first | rfl | assumption) (vp_in_nI (n := 2 * np B) (show 2 * np B < 32 by omega) (by decide)) ?_
      refine Ev_aload rfl rfl rfl ?_
      refine Ev_getR rfl (by first | rfl | assumption) (hρ _ _ _ rfl) ?_
      refine Ev_const rfl ?_
      refine Ev_aload rfl rfl rfl ?_
      refine Ev_getR rfl (by first | rfl | assumption) (hρ _ _ _ rfl) ?_
      refine Ev_const rfl ?_
      refine Ev_iald rfl (by first | rfl | assumption) (vp_in_nI (n := 3) (by decide) (by decide)) ?_
      refine Ev_norm (show _ = nI (np B) by rw [sR_1 _ _ (by decide)]; exact H28.2.2.2.1 3 (by decide)) ?_
      refine Ev_imul rfl ?_
      refine Ev_norm (pk_mul 2 (np B)) ?_
      refine Ev_const rfl ?_
      refine Ev_iadd rfl ?_
      refine Ev_norm (nI_1 (2 * np B)) ?_
      refine Ev_iload rfl rfl ?_
      refine Ev_iast rfl (by first | rfl | assumption) (vp_in_nI (n := 2 * np B + 1) (show 2 * np B + 1 < 32 by omega) (by decide)) ?_
      refine Ev_aload rfl rfl rfl ?_
      refine Ev_getR rfl (by first | rfl | assumption) (hρ _ _ _ rfl) ?_
      refine Ev_const rfl ?_
      refine Ev_dup2 rfl (fun _ q => nomatch q) (fun _ q => nomatch q) ?_
      refine Ev_iald rfl (by first | rfl | assumption) (vp_in_nI (n := 3) (by decide) (by decide)) ?_
      refine Ev_norm (show _ = nI (np B) by rw [sR_1 _ _ (by decide), sR_1 _ _ (by decide)]; exact H28.2.2.2.1 3 (by decide)) ?_
      refine Ev_const rfl ?_
      refine Ev_iadd rfl ?_
      refine Ev_norm (nI_1 (np B)) ?_
      refine Ev_iast rfl (by first | rfl | assumption) (vp_in_nI (n := 3) (by decide) (by decide)) ?_
      exact Ev_return rfl rfl rfl (by
      rw [nI_clamp (show 2 * np B < 2 ^ 31 by omega), nI_clamp (show 2 * np B + 1 < 2 ^ 31 by omega)]
      refine ⟨rfl, rfl, s28.kc ?_ ?_, ?_, ?_, fun _ => H28.2.2.2.adP ?_ ?_ ?_ rfl ?_, ((cc.k.tr (MRe.cell _ (by decide) rfl)).tr (MRe.cell _ (by decide) rfl)).tr (MRe.cell _ (by decide) rfl)⟩
      · rw [sR_1 _ _ (by decide), sR_1 _ _ (by decide), sR_1 _ _ (by decide)]
      · intro j hj; rw [sR_1 _ _ (by decide), sR_1 _ _ (by decide), sR_1 _ _ (by decide)]
      · exact H28.2.1.k (((MRe.cell _ (by decide) rfl)).tr (MRe.cell _ (by decide) rfl) |>.tr (MRe.cell _ (by decide) rfl))
      · refine H28.2.2.1.up (fun j hj => ?_) (fun j hj => ⟨?_, ?_⟩) (fun j hj => ?_) (fun j hj => ⟨?_, ?_⟩) (fun j hj => ?_) (fun j hj => rfl)
        · rw [sR_0, pk_un (by have : (3 : Int32).toNatClampNeg = 3 := rfl; omega), sR_1 _ _ (by decide), sR_1 _ _ (by decide)]
        · rw [sR_1 _ _ (by decide), sR_1 _ _ (by decide), sR_1 _ _ (by decide)]
        · rw [sR_1 _ _ (by decide), sR_1 _ _ (by decide), sR_1 _ _ (by decide)]
        · rw [sR_1 _ _ (by decide), sR_1 _ _ (by decide), sR_1 _ _ (by decide)]
        · rw [sR_1 _ _ (by decide), sR_1 _ _ (by decide), sR_1 _ _ (by decide)]
        · rw [sR_1 _ _ (by decide), sR_1 _ _ (by decide), sR_1 _ _ (by decide)]
        · rw [sR_1 _ _ (by decide), sR_1 _ _ (by decide), sR_1 _ _ (by decide)]
      · rw [sR_1 _ _ (by decide), sR_0, sR_0]
      · rw [sR_0, sR_1 _ _ (by decide), sR_1 _ _ (by decide)]; rfl
      · intro q hq
        simp only [List.mem_cons, List.not_mem_nil, or_false] at hq
        rcases hq with rfl | rfl | rfl | rfl | rfl | rfl <;> (rw [sR_1 _ _ (by decide), sR_1 _ _ (by decide), sR_1 _ _ (by decide)])
      · rw [sR_1 _ _ (by decide), sR_1 _ _ (by decide), sR_1 _ _ (by decide)])
theorem m_needTold (d : Nat) {σ : St} {s : Rdg} {a : Nat} (hρ : RF ρ) (hT : TxW U) (hB : WfB B) (hI : Ivr U s) (H : MSt σ U Bo B s) :
    T l X (d + 5) 184 [.ref 326, .int (nI a)] 402 402 ρ σ (StQ U Bo ρ σ (ndR U a (s, B))) := by
  have hn16 : nn B ≤ 16 := hB.1.2.2.1
  have hn8 := hB.1.1
  cases ho : isOk (ndS a (s, B)) with
  | false =>
    obtain ⟨e, he⟩ := not_inl ho
    have eR := ndR_l (U := U) he
    refine T_of rfl ?_
    refine Ev_aload rfl rfl rfl ?_
    refine Ev_const rfl ?_
    refine Ev_const rfl ?_
    refine Ev_iload rfl rfl ?_
    refine Ev_callV rfl rfl rfl rfl rfl (same_n 402) (m_isFull _ (kind := 2) (room := 16) (a := a) (s := s) hρ hB (by decide) (by decide) hn16 H) ?_
    rintro v5 ρ5 σ5 ⟨rfl, e5, s5, c5⟩
    refine Ev_norm (congrArg (fun b => bI (!b)) ho : _ = bI true) ?_
    obtain rfl := e5.symm
    refine Ev_if_eq rfl (fun h8 => absurd h8 (show ¬ bI true = 0 by decide)) (fun h8 => ?_)
    exact Ev_return rfl rfl rfl (by
    have s5 : MTt σ5 U (ndS a (s, B)) := s5
    rw [he] at s5
    exact ⟨rfl, rfl, by rw [eR]; exact s5, H.2.1.mx c5, (H.mx s5 c5).2.2.1, (fun z => by rw [eR] at z; cases z), c5.k⟩)
  | true =>
    obtain ⟨r1, r2⟩ := room_ok ho
    have r1 : ndS a (s, B) = s := r1
    have r2 : nn B < 16 := r2
    have eB : ndB U a (s, B) = aWd U (kw 4) (tdN U (ni B) (nmI B) s) := by unfold ndB ndA; rw [r1]
    have eC : ndC U a (s, B) = tdN U (ni B) (nmI B) (ndB U a (s, B)) := rfl
    have eX : ndX U a (s, B) = fnd (ni B) (nmI B) (vNm U s) := by unfold ndX; rw [r1]
    have eY : ndY U a (s, B) = fnd (ni B) (nmI B) (vNm U (ndB U a (s, B))) := rfl
    have hI2 : Ivr U (ndB U a (s, B)) := by rw [eB]; exact Ivr_aW (Ivr_td hI) (by decide)
    unfold ndR
    generalize ndC U a (s, B) = C at *
    generalize ndX U a (s, B) = x1 at *
    generalize ndY U a (s, B) = y1 at *
    generalize ndB U a (s, B) = sB at *
    have go : ∀ Q : Po, (∀ (σ2 : St) (x y : Int32), MTt σ2 U C → MX σ σ2 → (isOk C = true → (x = nI x1 ∧ x1 < ni B) ∧ (y = nI y1 ∧ y1 < ni B) ∧ σ2.1 326 38 = nI (rpos (lkS U sB))) → Ev l X (d + 5) 184 32 [.ref 326, .int (nI a), .int x, .int y] [] 402 402 402 ρ σ2 Q) → Ev l X (d + 5) 184 0 [.ref 326, .int (nI a), .float 0, .float 0] [] 402 402 402 ρ σ Q := by
      intro Q hQ
      refine Ev_aload rfl rfl rfl ?_
      refine Ev_const rfl ?_
      refine Ev_const rfl ?_
      refine Ev_iload rfl rfl ?_
      refine Ev_callV rfl rfl rfl rfl rfl (same_n 402) (m_isFull _ (kind := 2) (room := 16) (a := a) (s := s) hρ hB (by decide) (by decide) hn16 H) ?_
      rintro v5 ρ5 σ5 ⟨rfl, e5, s5, c5⟩
      refine Ev_norm (congrArg (fun b => bI (!b)) ho : _ = bI false) ?_
      obtain rfl := e5.symm
      have s5 : MTt σ5 U (ndS a (s, B)) := s5
      rw [r1] at s5
      refine Ev_if_eq rfl (fun h8 => ?_) (fun h8 => absurd rfl h8)
      refine Ev_aload rfl rfl rfl ?_
      refine Ev_const rfl ?_
      refine Ev_callV rfl rfl rfl rfl rfl (same_n 402) (m_named _ (kind := 0) hρ hT hB (by decide) hI (H.mx s5 c5)) ?_
      rintro v14 ρ14 σ14 ⟨⟨x, rfl, hx⟩, e14, s14, n14, c14⟩
      obtain rfl := e14.symm
      have s14 : MTt σ14 U (tdN U (ni B) (nmI B) s) := s14
      refine Ev_istore rfl ?_
      refine Ev_aload rfl rfl rfl ?_
      refine Ev_aload rfl rfl rfl ?_
      refine Ev_getR rfl (by first | rfl | assumption) (hρ _ _ _ rfl) ?_
      refine Ev_callV rfl rfl rfl rfl rfl (same_n 402) (m_asks _ hρ hT ((H.2.1.mx c5).mx c14) (k := 332) (w := kw 4) (by decide) s14) ?_
      rintro v23 ρ23 σ23 ⟨rfl, e23, s23, c23⟩
      obtain rfl := e23.symm
      rw [mAk_a (Ivr_td hI) (by decide), ← eB] at s23
      refine Ev_aload rfl rfl rfl ?_
      refine Ev_const rfl ?_
      refine Ev_callV rfl rfl rfl rfl rfl (same_n 402) (m_named _ (kind := 0) hρ hT hB (by decide) hI2 (((H.mx s5 c5).mx s14 c14).mx s23 c23)) ?_
      rintro v28 ρ28 σ28 ⟨⟨y, rfl, hy⟩, e28, s28, n28, c28⟩
      obtain rfl := e28.symm
      refine Ev_istore rfl ?_
      have s28 : MTt σ28 U (tdN U (ni B) (nmI B) sB) := s28
      refine hQ σ28 x y (by rw [eC]; exact s28) (((c5.tr c14).tr c23).tr c28) (fun z => ?_)
      rw [eC] at z
      obtain ⟨f1, f2, f3⟩ := tdN_ok z
      have f4 := (aM_ok f1).1
      rw [eB] at f4
      have f5 := (aW_ok f4).1
      have hx : x = nI (fnd (ni B) (nmI B) (vNm U s)) := hx f5
      have hy : y = nI (fnd (ni B) (nmI B) (vNm U sB)) := hy z
      have n28 : σ28.1 326 38 = nI (rpos (lkS U sB)) := n28 z
      rw [eX, eY]
      exact ⟨⟨hx, (tdN_ok f5).2.2⟩, ⟨hy, f3⟩, n28⟩
    refine T_of rfl ?_
    refine go _ (fun σ2 x y s2 c2 hv => ?_)
    have H2 := H.mx s2 c2
    cases hf : isOk C with
    | false =>
      obtain ⟨z, hz, hz0⟩ := s2.badN hf
      rw [if_neg (fun z => by cases z.1)]
      refine Ev_aload rfl rfl rfl ?_
      refine Ev_getI rfl (by first | rfl | assumption) ?_
      refine Ev_norm hz ?_
      refine Ev_if_ne rfl (fun h36 => ?_) (fun h36 => absurd hz0 h36)
      refine Ev_aload rfl rfl rfl ?_
      refine Ev_getI rfl (by first | rfl | assumption) ?_
      refine Ev_norm hz ?_
      refine Ev_if_eq rfl (fun h71 => absurd h71 hz0) (fun h71 => ?_)
      exact Ev_return rfl rfl rfl ⟨rfl, rfl, s2, H2.2.1, H2.2.2.1, (fun z => by have z : isOk C = true := z; rw [hf] at z; cases z), c2.k⟩
    | true =>
      obtain ⟨⟨rfl, hx1⟩, ⟨rfl, hy1⟩, hnp⟩ := hv hf
      have hz := s2.badO hf
      have hnee : nee B y1 < 256 := (hB.2.1.1 y1 hy1).2
      have hsh := sh_8 hnee (show x1 < 8 by omega)
      by_cases hc : y1 ≤ x1 ∨ nee B y1 / 2 ^ x1 % 2 = 1
      · rw [if_pos ⟨rfl, hc⟩]
        have fin : Ev l X (d + 5) 184 58 [.ref 326, .int (nI a), .int (nI x1), .int (nI y1)] [] 402 402 402 ρ σ2 (StQ U Bo ρ σ (flP 3 (rpos (lkS U sB)) C, B)) := by
          refine Ev_aload rfl rfl rfl ?_
          refine Ev_const rfl ?_
          refine Ev_aload rfl rfl rfl ?_
          refine Ev_getI rfl (by first | rfl | assumption) ?_
          refine Ev_norm hnp ?_
          refine Ev_callV rfl rfl rfl rfl rfl (same_n 402) (m_fail _ (w := 3) (k := rpos (lkS U sB)) s2 (by decide) (fun _ _ => rfl)) ?_
          rintro v64 ρ64 σ64 ⟨rfl, e64, s64, c64⟩
          obtain rfl := e64.symm
          obtain ⟨z, hz1, hz0⟩ := s64.badN (flP_no _ _ _)
          refine Ev_aload rfl rfl rfl ?_
          refine Ev_getI rfl (by first | rfl | assumption) ?_
          refine Ev_norm hz1 ?_
          refine Ev_if_eq rfl (fun h71 => absurd h71 hz0) (fun h71 => ?_)
          exact Ev_return rfl rfl rfl ⟨rfl, rfl, s64, H2.2.1.mx c64, (H2.mx s64 c64).2.2.1, (fun z => by have z : isOk (flP 3 (rpos (lkS U sB)) C) = true := z; rw [flP_no] at z; cases z), c2.k.tr c64.k⟩
        refine Ev_aload rfl rfl rfl ?_
        refine Ev_getI rfl (by first | rfl | assumption) ?_
        refine Ev_norm hz ?_
        refine Ev_if_ne rfl (fun h36 => absurd rfl h36) (fun h36 => ?_)
        refine Ev_iload rfl rfl ?_
        refine Ev_iload rfl rfl ?_
        refine Ev_icmp_le rfl (fun h41 => ?_) (fun h41 => ?_)
        · exact fin
        · refine Ev_aload rfl rfl rfl ?_
          refine Ev_getR rfl (by first | rfl | assumption) (hρ _ _ _ rfl) ?_
          refine Ev_iload rfl rfl ?_
          refine Ev_iald rfl (by first | rfl | assumption) (vp_in_nI (n := y1) (show y1 < 16 by omega) (by decide)) ?_
          refine Ev_norm (by rw [nI_clamp (by omega)]; exact (H2.2.2.2.2.2.1.1 y1 hy1).2 : _ = nI (nee B y1)) ?_
          refine Ev_iload rfl rfl ?_
          refine Ev_ishr rfl ?_
          refine Ev_const rfl ?_
          refine Ev_iand rfl ?_
          refine Ev_norm hsh ?_
          refine Ev_const rfl ?_
          refine Ev_icmp_ne rfl (fun h55 => absurd (show nI (nee B y1 / 2 ^ x1 % 2) = 1 by
          rcases hc with q | q
          · exact absurd (nI_le q (by omega)) h41
          · rw [q]; rfl) h55) (fun h55 => ?_)
          exact fin
      · rw [if_neg (fun z => hc z.2)]
        have hlt : x1 < y1 := by omega
        have h256 : nee B y1 ||| 2 ^ x1 < 2 ^ 31 := Nat.lt_of_lt_of_le (Nat.or_lt_two_pow (n := 8) hnee (Nat.pow_lt_pow_right (by decide) (show x1 < 8 by omega))) (by decide)
        refine Ev_aload rfl rfl rfl ?_
        refine Ev_getI rfl (by first | rfl | assumption) ?_
        refine Ev_norm hz ?_
        refine Ev_if_ne rfl (fun h36 => absurd rfl h36) (fun h36 => ?_)
        refine Ev_iload rfl rfl ?_
        refine Ev_iload rfl rfl ?_
        refine Ev_icmp_le rfl (fun h41 => absurd ((nI_leI (by omega) (by omega)).mp h41) (by omega)) (fun h41 => ?_)
        refine Ev_aload rfl rfl rfl ?_
        refine Ev_getR rfl (by first | rfl | assumption) (hρ _ _ _ rfl) ?_
        refine Ev_iload rfl rfl ?_
        refine Ev_iald rfl (by first | rfl | assumption) (vp_in_nI (n := y1) (show y1 < 16 by omega) (by decide)) ?_
        refine Ev_norm (by rw [nI_clamp (by omega)]; exact (H2.2.2.2.2.2.1.1 y1 hy1).2 : _ = nI (nee B y1)) ?_
        refine Ev_iload rfl rfl ?_
        refine Ev_ishr rfl ?_
        refine Ev_const rfl ?_
        refine Ev_iand rfl ?_
        refine Ev_norm hsh ?_
        refine Ev_const rfl ?_
        refine Ev_icmp_ne rfl (fun h55 => ?_) (fun h55 => absurd (fun z => hc (Or.inr ((nI_eq (b := 1) (by have := Nat.mod_lt (nee B y1 / 2 ^ x1) (show 0 < 2 by decide); omega) (by decide)).mp z))) h55)
        refine Ev_aload rfl rfl rfl ?_
        refine Ev_getI rfl (by first | rfl | assumption) ?_
        refine Ev_norm hz ?_
        refine Ev_if_eq rfl (fun h71 => ?_) (fun h71 => absurd rfl h71)
        refine Ev_aload rfl rfl rfl ?_
        refine Ev_getR rfl (by first | rfl | assumption) (hρ _ _ _ rfl) ?_
        refine Ev_iload rfl rfl ?_
        refine Ev_dup2 rfl (fun _ q => nomatch q) (fun _ q => nomatch q) ?_
        refine Ev_iald rfl (by first | rfl | assumption) (vp_in_nI (n := y1) (show y1 < 16 by omega) (by decide)) ?_
        refine Ev_norm (by rw [nI_clamp (by omega)]; exact (H2.2.2.2.2.2.1.1 y1 hy1).2 : _ = nI (nee B y1)) ?_
        refine Ev_const rfl ?_
        refine Ev_iload rfl rfl ?_
        refine Ev_ishl rfl ?_
        refine Ev_norm (shl_1 x1 (by omega)) ?_
        refine Ev_ior rfl ?_
        refine Ev_norm (nI_or (nee B y1) (2 ^ x1)) ?_
        refine Ev_iast rfl (by first | rfl | assumption) (vp_in_nI (n := y1) (show y1 < 16 by omega) (by decide)) ?_
        refine Ev_aload rfl rfl rfl ?_
        refine Ev_getR rfl (by first | rfl | assumption) (hρ _ _ _ rfl) ?_
        refine Ev_const rfl ?_
        refine Ev_dup2 rfl (fun _ q => nomatch q) (fun _ q => nomatch q) ?_
        refine Ev_iald rfl (by first | rfl | assumption) (vp_in_nI (n := 2) (by decide) (by decide)) ?_
        refine Ev_norm (show _ = nI (nn B) by rw [sR_1 _ _ (by decide)]; exact H2.2.2.2.1 2 (by decide)) ?_
        refine Ev_const rfl ?_
        refine Ev_iadd rfl ?_
        refine Ev_norm (nI_1 (nn B)) ?_
        refine Ev_iast rfl (by first | rfl | assumption) (vp_in_nI (n := 2) (by decide) (by decide)) ?_
        exact Ev_return rfl rfl rfl (by
        rw [nI_clamp (show y1 < 2 ^ 31 by omega)]
        refine ⟨rfl, rfl, s2.kc ?_ ?_, ?_, ?_, fun _ => H2.2.2.2.adN ?_ ?_ ?_ rfl ?_, ((c2.k.tr (MRe.cell _ (by decide) rfl)).tr (MRe.cell _ (by decide) rfl))⟩
        · rw [sR_1 _ _ (by decide), sR_1 _ _ (by decide)]
        · intro j hj; rw [sR_1 _ _ (by decide), sR_1 _ _ (by decide)]
        · exact H2.2.1.k ((MRe.cell _ (by decide) rfl).tr (MRe.cell _ (by decide) rfl))
        · refine H2.2.2.1.up (fun j hj => ?_) (fun j hj => ⟨?_, ?_⟩) (fun j hj => ?_) (fun j hj => ⟨?_, ?_⟩) (fun j hj => ?_) (fun j hj => rfl)
          · rw [sR_0, pk_un (by have : (2 : Int32).toNatClampNeg = 2 := rfl; omega), sR_1 _ _ (by decide)]
          · rw [sR_1 _ _ (by decide), sR_1 _ _ (by decide)]
          · rw [sR_1 _ _ (by decide), sR_0, pk_un (by omega)]
          · rw [sR_1 _ _ (by decide), sR_1 _ _ (by decide)]
          · rw [sR_1 _ _ (by decide), sR_1 _ _ (by decide)]
          · rw [sR_1 _ _ (by decide), sR_1 _ _ (by decide)]
          · rw [sR_1 _ _ (by decide), sR_1 _ _ (by decide)]
        · rw [sR_1 _ _ (by decide), sR_0]
        · rw [sR_0, sR_1 _ _ (by decide)]; rfl
        · intro q hq
          simp only [List.mem_cons, List.not_mem_nil, or_false] at hq
          rcases hq with rfl | rfl | rfl | rfl | rfl | rfl <;> (rw [sR_1 _ _ (by decide), sR_1 _ _ (by decide)])
        · rw [sR_1 _ _ (by decide), sR_1 _ _ (by decide)])
end S88zw
