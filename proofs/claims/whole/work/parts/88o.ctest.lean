/-! A formula read: the class's products, sums, facts, tests. -/
section S88o
variable {l : Launch} {X : Cx} {ρ : Rf} {U : Tx} {O bs k : Nat}
theorem t_product {o n K : Nat} {D : Lv} (hρ : RF ρ) (hT : TxW U) (hO : OkO O) (hO1 : ρ 318 1 = some O) (hK : 10 ≤ K) (hf : FoT l X ρ U O bs k 40 o (K + 0) (parX U k n D)) : FoT l X ρ U O bs k 39 o (K + 1) (prX U k n D) := by
  intro d σ x hd H
  obtain ⟨d, rfl⟩ : ∃ e, d = e + 10 := ⟨d - 10, by omega⟩
  have loop : ∀ (m c : Nat) (σ1 : St) (y : Xs) (w3 : Value), c + m = 1600 → FPr σ1 U O bs k y → CF (cFo O bs) σ σ1 → Ev l X (d + 10) 39 7 [.ref 318, .int (nI o), .int (nI c), w3] [] 402 402 402 ρ σ1 (FoQ O bs U k ρ σ (twL U (parX U k n D) 42 47 38 39 m y)) := by
    intro m
    induction m with
    | zero =>
      intro c σ1 y w3 hc H1 c1
      have hc : c = 1600 := by omega
      subst hc
      refine Ev_iload rfl rfl ?_
      refine Ev_const rfl ?_
      refine Ev_icmp_ge rfl (fun h11 => ?_) (fun h11 => absurd (by decide) h11)
      exact Ev_return rfl rfl rfl ⟨rfl, rfl, H1, c1⟩
    | succ m ih =>
      intro c σ1 y w3 hc H1 c1
      have k1 := H1.1.hs (c := 42) hT (by decide)
      have k2 := H1.1.hs (c := 47) hT (by decide)
      have e : twL U (parX U k n D) 42 47 38 39 (m + 1) y = if lkC U y.1 = some 42 then twL U (parX U k n D) 42 47 38 39 m (em 38 (parX U k n D (tSg U 42 y.1, y.2))) else if lkC U y.1 = some 47 then twL U (parX U k n D) 42 47 38 39 m (em 39 (parX U k n D (tSg U 47 y.1, y.2))) else (lkS U y.1, y.2) := rfl
      rw [e]
      by_cases z1 : lkC U y.1 = some 42
      · have hn := t_nextS (l := l) (X := X) (d + 4) hρ hT H1.1 z1 (by decide)
        rw [if_pos z1]
        rw [← tSg_y z1] at hn
        refine Ev_iload rfl rfl ?_
        refine Ev_const rfl ?_
        refine Ev_icmp_ge rfl (fun h11 => absurd h11 (nI_ge (b := 1600) (by omega) (by decide))) (fun h11 => ?_)
        refine Ev_aload rfl rfl rfl ?_
        refine Ev_getR rfl (by first | rfl | assumption) (hρ _ _ _ rfl) ?_
        refine Ev_getI rfl (by first | rfl | assumption) ?_
        refine Ev_const rfl ?_
        refine Ev_icmp_eq rfl (fun h23 => ?_) (fun h23 => absurd (k1.mpr z1) h23)
        refine Ev_aload rfl rfl rfl ?_
        refine Ev_getR rfl (by first | rfl | assumption) (hρ _ _ _ rfl) ?_
        refine Ev_getI rfl (by first | rfl | assumption) ?_
        refine Ev_const rfl ?_
        refine Ev_icmp_ne rfl (fun h47 => absurd (k1.mpr z1) h47) (fun h47 => ?_)
        refine Ev_const rfl ?_
        refine Ev_goto rfl ?_
        refine Ev_istore rfl ?_
        refine Ev_aload rfl rfl rfl ?_
        refine Ev_getR rfl (by first | rfl | assumption) (hρ _ _ _ rfl) ?_
        refine Ev_callV rfl rfl rfl rfl rfl (same_n 402) hn ?_
        rintro v62 ρ62 σ62 ⟨rfl, e62, s62, c62⟩
        obtain rfl := e62.symm
        have H62 := H1.tx hO s62.t c62
        refine Ev_aload rfl rfl rfl ?_
        refine Ev_iload rfl rfl ?_
        refine Ev_callV rfl rfl rfl rfl rfl (same_n 402) (hf _ _ _ (by omega) H62) ?_
        rintro v67 ρ67 σ67 ⟨rfl, e67, H67, c67⟩
        obtain rfl := e67.symm
        refine Ev_aload rfl rfl rfl ?_
        refine Ev_getR rfl (by first | rfl | assumption) hO1 ?_
        refine Ev_iload rfl rfl ?_
        refine Ev_callV rfl rfl rfl ((OrdO_of hρ hO).1) rfl (same_n 402) (FPr.addE (t := 38) hρ hO rfl H67) ?_
        rintro v75 ρ75 σ75 ⟨rfl, e75, H75, c75⟩
        obtain rfl := e75.symm
        refine Ev_iincE rfl rfl (nI_1 c) ?_
        refine Ev_goto rfl ?_
        exact ih (c + 1) σ75 _ _ (by omega) H75 (((c1.tr (cTt_Fo c62)).tr c67).tr c75)
      · rw [if_neg z1]
        by_cases z2 : lkC U y.1 = some 47
        · have hn := t_nextS (l := l) (X := X) (d + 4) hρ hT H1.1 z2 (by decide)
          rw [if_pos z2]
          rw [← tSg_y z2] at hn
          refine Ev_iload rfl rfl ?_
          refine Ev_const rfl ?_
          refine Ev_icmp_ge rfl (fun h11 => absurd h11 (nI_ge (b := 1600) (by omega) (by decide))) (fun h11 => ?_)
          refine Ev_aload rfl rfl rfl ?_
          refine Ev_getR rfl (by first | rfl | assumption) (hρ _ _ _ rfl) ?_
          refine Ev_getI rfl (by first | rfl | assumption) ?_
          refine Ev_const rfl ?_
          refine Ev_icmp_eq rfl (fun h23 => absurd (k1.mp h23) z1) (fun h23 => ?_)
          refine Ev_aload rfl rfl rfl ?_
          refine Ev_getR rfl (by first | rfl | assumption) (hρ _ _ _ rfl) ?_
          refine Ev_getI rfl (by first | rfl | assumption) ?_
          refine Ev_const rfl ?_
          refine Ev_icmp_ne rfl (fun h35 => absurd (k2.mpr z2) h35) (fun h35 => ?_)
          refine Ev_aload rfl rfl rfl ?_
          refine Ev_getR rfl (by first | rfl | assumption) (hρ _ _ _ rfl) ?_
          refine Ev_getI rfl (by first | rfl | assumption) ?_
          refine Ev_const rfl ?_
          refine Ev_icmp_ne rfl (fun h47 => ?_) (fun h47 => absurd (k1.mp (Decidable.not_not.mp h47)) z1)
          refine Ev_const rfl ?_
          refine Ev_istore rfl ?_
          refine Ev_aload rfl rfl rfl ?_
          refine Ev_getR rfl (by first | rfl | assumption) (hρ _ _ _ rfl) ?_
          refine Ev_callV rfl rfl rfl rfl rfl (same_n 402) hn ?_
          rintro v62 ρ62 σ62 ⟨rfl, e62, s62, c62⟩
          obtain rfl := e62.symm
          have H62 := H1.tx hO s62.t c62
          refine Ev_aload rfl rfl rfl ?_
          refine Ev_iload rfl rfl ?_
          refine Ev_callV rfl rfl rfl rfl rfl (same_n 402) (hf _ _ _ (by omega) H62) ?_
          rintro v67 ρ67 σ67 ⟨rfl, e67, H67, c67⟩
          obtain rfl := e67.symm
          refine Ev_aload rfl rfl rfl ?_
          refine Ev_getR rfl (by first | rfl | assumption) hO1 ?_
          refine Ev_iload rfl rfl ?_
          refine Ev_callV rfl rfl rfl ((OrdO_of hρ hO).1) rfl (same_n 402) (FPr.addE (t := 39) hρ hO rfl H67) ?_
          rintro v75 ρ75 σ75 ⟨rfl, e75, H75, c75⟩
          obtain rfl := e75.symm
          refine Ev_iincE rfl rfl (nI_1 c) ?_
          refine Ev_goto rfl ?_
          exact ih (c + 1) σ75 _ _ (by omega) H75 (((c1.tr (cTt_Fo c62)).tr c67).tr c75)
        · rw [if_neg z2]
          refine Ev_iload rfl rfl ?_
          refine Ev_const rfl ?_
          refine Ev_icmp_ge rfl (fun h11 => absurd h11 (nI_ge (b := 1600) (by omega) (by decide))) (fun h11 => ?_)
          refine Ev_aload rfl rfl rfl ?_
          refine Ev_getR rfl (by first | rfl | assumption) (hρ _ _ _ rfl) ?_
          refine Ev_getI rfl (by first | rfl | assumption) ?_
          refine Ev_const rfl ?_
          refine Ev_icmp_eq rfl (fun h23 => absurd (k1.mp h23) z1) (fun h23 => ?_)
          refine Ev_aload rfl rfl rfl ?_
          refine Ev_getR rfl (by first | rfl | assumption) (hρ _ _ _ rfl) ?_
          refine Ev_getI rfl (by first | rfl | assumption) ?_
          refine Ev_const rfl ?_
          refine Ev_icmp_ne rfl (fun h35 => ?_) (fun h35 => absurd (k2.mp (Decidable.not_not.mp h35)) z2)
          exact Ev_return rfl rfl rfl ⟨rfl, rfl, H1.tx hO H1.1.lk (CF.rf _ _), c1⟩
  refine T_of rfl ?_
  refine Ev_aload rfl rfl rfl ?_
  refine Ev_iload rfl rfl ?_
  refine Ev_callV rfl rfl rfl rfl rfl (same_n 402) (hf _ _ _ (by omega) H) ?_
  rintro v2 ρ2 σ2 ⟨rfl, e2, H2, c2⟩
  obtain rfl := e2.symm
  refine Ev_const rfl ?_
  refine Ev_istore rfl ?_
  exact loop 1600 0 σ2 _ (.float 0) (by decide) H2 c2
theorem t_sum {o n K : Nat} {D : Lv} (hρ : RF ρ) (hT : TxW U) (hO : OkO O) (hO1 : ρ 318 1 = some O) (hK : 10 ≤ K) (hf : FoT l X ρ U O bs k 39 o (K + 1) (prX U k n D)) : FoT l X ρ U O bs k 38 o (K + 2) (smX U k n D) := by
  intro d σ x hd H
  obtain ⟨d, rfl⟩ : ∃ e, d = e + 10 := ⟨d - 10, by omega⟩
  have loop : ∀ (m c : Nat) (σ1 : St) (y : Xs) (w3 : Value), c + m = 1600 → FPr σ1 U O bs k y → CF (cFo O bs) σ σ1 → Ev l X (d + 10) 38 7 [.ref 318, .int (nI o), .int (nI c), w3] [] 402 402 402 ρ σ1 (FoQ O bs U k ρ σ (twL U (prX U k n D) 43 45 36 37 m y)) := by
    intro m
    induction m with
    | zero =>
      intro c σ1 y w3 hc H1 c1
      have hc : c = 1600 := by omega
      subst hc
      refine Ev_iload rfl rfl ?_
      refine Ev_const rfl ?_
      refine Ev_icmp_ge rfl (fun h11 => ?_) (fun h11 => absurd (by decide) h11)
      exact Ev_return rfl rfl rfl ⟨rfl, rfl, H1, c1⟩
    | succ m ih =>
      intro c σ1 y w3 hc H1 c1
      have k1 := H1.1.hs (c := 43) hT (by decide)
      have k2 := H1.1.hs (c := 45) hT (by decide)
      have e : twL U (prX U k n D) 43 45 36 37 (m + 1) y = if lkC U y.1 = some 43 then twL U (prX U k n D) 43 45 36 37 m (em 36 (prX U k n D (tSg U 43 y.1, y.2))) else if lkC U y.1 = some 45 then twL U (prX U k n D) 43 45 36 37 m (em 37 (prX U k n D (tSg U 45 y.1, y.2))) else (lkS U y.1, y.2) := rfl
      rw [e]
      by_cases z1 : lkC U y.1 = some 43
      · have hn := t_nextS (l := l) (X := X) (d + 4) hρ hT H1.1 z1 (by decide)
        rw [if_pos z1]
        rw [← tSg_y z1] at hn
        refine Ev_iload rfl rfl ?_
        refine Ev_const rfl ?_
        refine Ev_icmp_ge rfl (fun h11 => absurd h11 (nI_ge (b := 1600) (by omega) (by decide))) (fun h11 => ?_)
        refine Ev_aload rfl rfl rfl ?_
        refine Ev_getR rfl (by first | rfl | assumption) (hρ _ _ _ rfl) ?_
        refine Ev_getI rfl (by first | rfl | assumption) ?_
        refine Ev_const rfl ?_
        refine Ev_icmp_eq rfl (fun h23 => ?_) (fun h23 => absurd (k1.mpr z1) h23)
        refine Ev_aload rfl rfl rfl ?_
        refine Ev_getR rfl (by first | rfl | assumption) (hρ _ _ _ rfl) ?_
        refine Ev_getI rfl (by first | rfl | assumption) ?_
        refine Ev_const rfl ?_
        refine Ev_icmp_ne rfl (fun h47 => absurd (k1.mpr z1) h47) (fun h47 => ?_)
        refine Ev_const rfl ?_
        refine Ev_goto rfl ?_
        refine Ev_istore rfl ?_
        refine Ev_aload rfl rfl rfl ?_
        refine Ev_getR rfl (by first | rfl | assumption) (hρ _ _ _ rfl) ?_
        refine Ev_callV rfl rfl rfl rfl rfl (same_n 402) hn ?_
        rintro v62 ρ62 σ62 ⟨rfl, e62, s62, c62⟩
        obtain rfl := e62.symm
        have H62 := H1.tx hO s62.t c62
        refine Ev_aload rfl rfl rfl ?_
        refine Ev_iload rfl rfl ?_
        refine Ev_callV rfl rfl rfl rfl rfl (same_n 402) (hf _ _ _ (by omega) H62) ?_
        rintro v67 ρ67 σ67 ⟨rfl, e67, H67, c67⟩
        obtain rfl := e67.symm
        refine Ev_aload rfl rfl rfl ?_
        refine Ev_getR rfl (by first | rfl | assumption) hO1 ?_
        refine Ev_iload rfl rfl ?_
        refine Ev_callV rfl rfl rfl ((OrdO_of hρ hO).1) rfl (same_n 402) (FPr.addE (t := 36) hρ hO rfl H67) ?_
        rintro v75 ρ75 σ75 ⟨rfl, e75, H75, c75⟩
        obtain rfl := e75.symm
        refine Ev_iincE rfl rfl (nI_1 c) ?_
        refine Ev_goto rfl ?_
        exact ih (c + 1) σ75 _ _ (by omega) H75 (((c1.tr (cTt_Fo c62)).tr c67).tr c75)
      · rw [if_neg z1]
        by_cases z2 : lkC U y.1 = some 45
        · have hn := t_nextS (l := l) (X := X) (d + 4) hρ hT H1.1 z2 (by decide)
          rw [if_pos z2]
          rw [← tSg_y z2] at hn
          refine Ev_iload rfl rfl ?_
          refine Ev_const rfl ?_
          refine Ev_icmp_ge rfl (fun h11 => absurd h11 (nI_ge (b := 1600) (by omega) (by decide))) (fun h11 => ?_)
          refine Ev_aload rfl rfl rfl ?_
          refine Ev_getR rfl (by first | rfl | assumption) (hρ _ _ _ rfl) ?_
          refine Ev_getI rfl (by first | rfl | assumption) ?_
          refine Ev_const rfl ?_
          refine Ev_icmp_eq rfl (fun h23 => absurd (k1.mp h23) z1) (fun h23 => ?_)
          refine Ev_aload rfl rfl rfl ?_
          refine Ev_getR rfl (by first | rfl | assumption) (hρ _ _ _ rfl) ?_
          refine Ev_getI rfl (by first | rfl | assumption) ?_
          refine Ev_const rfl ?_
          refine Ev_icmp_ne rfl (fun h35 => absurd (k2.mpr z2) h35) (fun h35 => ?_)
          refine Ev_aload rfl rfl rfl ?_
          refine Ev_getR rfl (by first | rfl | assumption) (hρ _ _ _ rfl) ?_
          refine Ev_getI rfl (by first | rfl | assumption) ?_
          refine Ev_const rfl ?_
          refine Ev_icmp_ne rfl (fun h47 => ?_) (fun h47 => absurd (k1.mp (Decidable.not_not.mp h47)) z1)
          refine Ev_const rfl ?_
          refine Ev_istore rfl ?_
          refine Ev_aload rfl rfl rfl ?_
          refine Ev_getR rfl (by first | rfl | assumption) (hρ _ _ _ rfl) ?_
          refine Ev_callV rfl rfl rfl rfl rfl (same_n 402) hn ?_
          rintro v62 ρ62 σ62 ⟨rfl, e62, s62, c62⟩
          obtain rfl := e62.symm
          have H62 := H1.tx hO s62.t c62
          refine Ev_aload rfl rfl rfl ?_
          refine Ev_iload rfl rfl ?_
          refine Ev_callV rfl rfl rfl rfl rfl (same_n 402) (hf _ _ _ (by omega) H62) ?_
          rintro v67 ρ67 σ67 ⟨rfl, e67, H67, c67⟩
          obtain rfl := e67.symm
          refine Ev_aload rfl rfl rfl ?_
          refine Ev_getR rfl (by first | rfl | assumption) hO1 ?_
          refine Ev_iload rfl rfl ?_
          refine Ev_callV rfl rfl rfl ((OrdO_of hρ hO).1) rfl (same_n 402) (FPr.addE (t := 37) hρ hO rfl H67) ?_
          rintro v75 ρ75 σ75 ⟨rfl, e75, H75, c75⟩
          obtain rfl := e75.symm
          refine Ev_iincE rfl rfl (nI_1 c) ?_
          refine Ev_goto rfl ?_
          exact ih (c + 1) σ75 _ _ (by omega) H75 (((c1.tr (cTt_Fo c62)).tr c67).tr c75)
        · rw [if_neg z2]
          refine Ev_iload rfl rfl ?_
          refine Ev_const rfl ?_
          refine Ev_icmp_ge rfl (fun h11 => absurd h11 (nI_ge (b := 1600) (by omega) (by decide))) (fun h11 => ?_)
          refine Ev_aload rfl rfl rfl ?_
          refine Ev_getR rfl (by first | rfl | assumption) (hρ _ _ _ rfl) ?_
          refine Ev_getI rfl (by first | rfl | assumption) ?_
          refine Ev_const rfl ?_
          refine Ev_icmp_eq rfl (fun h23 => absurd (k1.mp h23) z1) (fun h23 => ?_)
          refine Ev_aload rfl rfl rfl ?_
          refine Ev_getR rfl (by first | rfl | assumption) (hρ _ _ _ rfl) ?_
          refine Ev_getI rfl (by first | rfl | assumption) ?_
          refine Ev_const rfl ?_
          refine Ev_icmp_ne rfl (fun h35 => ?_) (fun h35 => absurd (k2.mp (Decidable.not_not.mp h35)) z2)
          exact Ev_return rfl rfl rfl ⟨rfl, rfl, H1.tx hO H1.1.lk (CF.rf _ _), c1⟩
  refine T_of rfl ?_
  refine Ev_aload rfl rfl rfl ?_
  refine Ev_iload rfl rfl ?_
  refine Ev_callV rfl rfl rfl rfl rfl (same_n 402) (hf _ _ _ (by omega) H) ?_
  rintro v2 ρ2 σ2 ⟨rfl, e2, H2, c2⟩
  obtain rfl := e2.symm
  refine Ev_const rfl ?_
  refine Ev_istore rfl ?_
  exact loop 1600 0 σ2 _ (.float 0) (by decide) H2 c2
theorem cc_sg (U : Tx) (s : Rdg) : cc (sgT U s) = sgT U s := by
  unfold sgT
  split
  · rfl
  · split <;> rfl
theorem FPr.all {d : Nat} {σ : St} {x : Xs} (hρ : RF ρ) (hO : OkO O) (H : FPr σ U O bs k x) : T l X (d + 1) 70 [.ref O, .int 1] 402 402 ρ σ (FoQ O bs U k ρ σ (em 47 x)) := by
  refine T_of rfl ?_
  refine Ev_aload rfl rfl rfl ?_
  refine Ev_iload rfl rfl ?_
  refine Ev_const rfl ?_
  refine Ev_ishl rfl ?_
  refine Ev_const rfl ?_
  refine Ev_ior rfl ?_
  refine Ev_norm (num_or (v := 1) (by decide) : _ = nI 288) ?_
  refine Ev_callV rfl rfl rfl ((OrdO_of hρ hO).1) rfl (same_n 402) (FPr.add (t := 47) hρ hO H) ?_
  rintro v8 ρ8 σ8 ⟨rfl, e8, H8, c8⟩
  obtain rfl := e8.symm
  exact Ev_return rfl rfl rfl ⟨rfl, rfl, H8, c8⟩
theorem t_fact {o n K K' : Nat} {D : Lv} (hρ : RF ρ) (hT : TxW U) (hO : OkO O) (hO1 : ρ 318 1 = some O) (ho : o + n = 6) (hK : 10 ≤ K) (hKK : K' + 4 ≤ K) (hD : n ≠ 0 → LvT l X ρ U O bs k (o + 1) K' D) (hf : FoT l X ρ U O bs k 38 o (K + 2) (smX U k n D)) : FoT l X ρ U O bs k 36 o (K + 3) (fcX U k n D) := by
  intro d σ x hd H
  obtain ⟨d, rfl⟩ : ∃ e, d = e + 10 := ⟨d - 10, by omega⟩
  have kn := H.1.hw (i := 23) hT (by decide)
  rw [wl_not] at kn
  have kb := H.1.hs (c := 91) hT (by decide)
  unfold fcX FoQ
  by_cases g1 : wAt U x.1 = wNot
  · obtain ⟨a, tc, e1, e2, e3⟩ := wAt_c (by rw [g1]; decide : wAt U x.1 ≠ [])
    rw [if_pos g1]
    by_cases hn : n = 0
    · subst hn
      have ho : o = 6 := by omega
      subst ho
      rw [mo_0, show isOk (flA 4 0 (lkS U x.1)) = false by rw [e1]; rfl]
      refine T_of rfl ?_
      refine Ev_aload rfl rfl rfl ?_
      refine Ev_getR rfl (by first | rfl | assumption) (hρ _ _ _ rfl) ?_
      refine Ev_getI rfl (by first | rfl | assumption) ?_
      refine Ev_const rfl ?_
      refine Ev_icmp_ne rfl (fun h10 => absurd (kn.mpr g1) h10) (fun h10 => ?_)
      refine Ev_aload rfl rfl rfl ?_
      refine Ev_iload rfl rfl ?_
      refine Ev_callV rfl rfl rfl rfl rfl (same_n 402) (t_opens0 _ hρ hT H.1 e1) ?_
      rintro v15 ρ15 σ15 ⟨rfl, e15, s15, c15⟩
      obtain rfl := e15.symm
      refine Ev_if_eq rfl (fun h18 => ?_) (fun h18 => absurd rfl h18)
      exact Ev_return rfl rfl rfl ⟨rfl, rfl, H.tx hO s15.t c15, cTt_Fo c15⟩
    · rw [mo_n hn, show isOk (lkS U x.1) = true by rw [e1]; rfl, tWd_i]
      have hop := t_opens1 (l := l) (X := X) (o := o) (d + 3) hρ (by omega) (t_nextW _ hρ hT H.1 g1 (by decide))
      rw [← tWd_y g1] at hop
      refine T_of rfl ?_
      refine Ev_aload rfl rfl rfl ?_
      refine Ev_getR rfl (by first | rfl | assumption) (hρ _ _ _ rfl) ?_
      refine Ev_getI rfl (by first | rfl | assumption) ?_
      refine Ev_const rfl ?_
      refine Ev_icmp_ne rfl (fun h10 => absurd (kn.mpr g1) h10) (fun h10 => ?_)
      refine Ev_aload rfl rfl rfl ?_
      refine Ev_iload rfl rfl ?_
      refine Ev_callV rfl rfl rfl rfl rfl (same_n 402) hop ?_
      rintro v15 ρ15 σ15 ⟨rfl, e15, s15, c15⟩
      obtain rfl := e15.symm
      have H15 := H.tx hO s15.t c15
      refine Ev_if_eq rfl (fun h18 => absurd h18 (by decide)) (fun h18 => ?_)
      refine Ev_aload rfl rfl rfl ?_
      refine Ev_iload rfl rfl ?_
      refine Ev_const rfl ?_
      refine Ev_iadd rfl ?_
      refine Ev_norm (nI_1 o) ?_
      refine Ev_callV rfl rfl rfl rfl rfl (same_n 402) ((hD hn).1 _ _ _ (by omega) H15) ?_
      rintro v25 ρ25 σ25 ⟨rfl, e25, H25, c25⟩
      obtain rfl := e25.symm
      refine Ev_aload rfl rfl rfl ?_
      refine Ev_getR rfl (by first | rfl | assumption) hO1 ?_
      refine Ev_const rfl ?_
      refine Ev_callV rfl rfl rfl ((OrdO_of hρ hO).1) rfl (same_n 402) (FPr.addE (t := 33) hρ hO rfl H25) ?_
      rintro v34 ρ34 σ34 ⟨rfl, e34, H34, c34⟩
      obtain rfl := e34.symm
      refine Ev_goto rfl ?_
      exact Ev_return rfl rfl rfl ⟨rfl, rfl, H34, ((cTt_Fo c15).tr c25).tr c34⟩
  · rw [if_neg g1]
    by_cases g2 : lkC U x.1 = some 91
    · obtain ⟨a, tc, e1, e2, e3, -⟩ := lk_some g2
      rw [if_pos g2]
      by_cases hn : n = 0
      · subst hn
        have ho : o = 6 := by omega
        subst ho
        rw [mo_0, show isOk (flA 4 0 (lkS U x.1)) = false by rw [e1]; rfl]
        refine T_of rfl ?_
        refine Ev_aload rfl rfl rfl ?_
        refine Ev_getR rfl (by first | rfl | assumption) (hρ _ _ _ rfl) ?_
        refine Ev_getI rfl (by first | rfl | assumption) ?_
        refine Ev_const rfl ?_
        refine Ev_icmp_ne rfl (fun h10 => ?_) (fun h10 => absurd (kn.mp (Decidable.not_not.mp h10)) g1)
        refine Ev_aload rfl rfl rfl ?_
        refine Ev_getR rfl (by first | rfl | assumption) (hρ _ _ _ rfl) ?_
        refine Ev_getI rfl (by first | rfl | assumption) ?_
        refine Ev_const rfl ?_
        refine Ev_icmp_ne rfl (fun h49 => absurd (kb.mpr g2) h49) (fun h49 => ?_)
        refine Ev_aload rfl rfl rfl ?_
        refine Ev_iload rfl rfl ?_
        refine Ev_callV rfl rfl rfl rfl rfl (same_n 402) (t_opens0 _ hρ hT H.1 e1) ?_
        rintro v54 ρ54 σ54 ⟨rfl, e54, s54, c54⟩
        obtain rfl := e54.symm
        refine Ev_if_eq rfl (fun h57 => ?_) (fun h57 => absurd rfl h57)
        exact Ev_return rfl rfl rfl ⟨rfl, rfl, H.tx hO s54.t c54, cTt_Fo c54⟩
      · rw [mo_n hn, show isOk (lkS U x.1) = true by rw [e1]; rfl, tSg_i]
        have hop := t_opens1 (l := l) (X := X) (o := o) (d + 3) hρ (by omega) (t_nextS _ hρ hT H.1 g2 (by decide))
        rw [← tSg_y g2] at hop
        refine T_of rfl ?_
        refine Ev_aload rfl rfl rfl ?_
        refine Ev_getR rfl (by first | rfl | assumption) (hρ _ _ _ rfl) ?_
        refine Ev_getI rfl (by first | rfl | assumption) ?_
        refine Ev_const rfl ?_
        refine Ev_icmp_ne rfl (fun h10 => ?_) (fun h10 => absurd (kn.mp (Decidable.not_not.mp h10)) g1)
        refine Ev_aload rfl rfl rfl ?_
        refine Ev_getR rfl (by first | rfl | assumption) (hρ _ _ _ rfl) ?_
        refine Ev_getI rfl (by first | rfl | assumption) ?_
        refine Ev_const rfl ?_
        refine Ev_icmp_ne rfl (fun h49 => absurd (kb.mpr g2) h49) (fun h49 => ?_)
        refine Ev_aload rfl rfl rfl ?_
        refine Ev_iload rfl rfl ?_
        refine Ev_callV rfl rfl rfl rfl rfl (same_n 402) hop ?_
        rintro v54 ρ54 σ54 ⟨rfl, e54, s54, c54⟩
        obtain rfl := e54.symm
        have H54 := H.tx hO s54.t c54
        refine Ev_if_eq rfl (fun h57 => absurd h57 (by decide)) (fun h57 => ?_)
        refine Ev_aload rfl rfl rfl ?_
        refine Ev_iload rfl rfl ?_
        refine Ev_const rfl ?_
        refine Ev_iadd rfl ?_
        refine Ev_norm (nI_1 o) ?_
        refine Ev_callV rfl rfl rfl rfl rfl (same_n 402) ((hD hn).2.1 _ _ _ (by omega) H54) ?_
        rintro v64 ρ64 σ64 ⟨rfl, e64, H64, c64⟩
        obtain rfl := e64.symm
        refine Ev_aload rfl rfl rfl ?_
        refine Ev_getR rfl (by first | rfl | assumption) (hρ _ _ _ rfl) ?_
        refine Ev_const rfl ?_
        refine Ev_callV rfl rfl rfl rfl rfl (same_n 402) (FPr.askE (c := 93) hρ hT hO (by decide) H64) ?_
        rintro v73 ρ73 σ73 ⟨rfl, e73, H73, c73⟩
        obtain rfl := e73.symm
        refine Ev_goto rfl ?_
        exact Ev_return rfl rfl rfl ⟨rfl, rfl, H73, ((cTt_Fo c54).tr c64).tr c73⟩
    · rw [if_neg g2]
      by_cases g3 : wAt U x.1 = wAll
      · rw [if_pos g3, tWd_i]
        refine T_of rfl ?_
        refine Ev_aload rfl rfl rfl ?_
        refine Ev_getR rfl (by first | rfl | assumption) (hρ _ _ _ rfl) ?_
        refine Ev_getI rfl (by first | rfl | assumption) ?_
        refine Ev_const rfl ?_
        refine Ev_icmp_ne rfl (fun h10 => ?_) (fun h10 => absurd (kn.mp (Decidable.not_not.mp h10)) g1)
        refine Ev_aload rfl rfl rfl ?_
        refine Ev_getR rfl (by first | rfl | assumption) (hρ _ _ _ rfl) ?_
        refine Ev_getI rfl (by first | rfl | assumption) ?_
        refine Ev_const rfl ?_
        refine Ev_icmp_ne rfl (fun h49 => ?_) (fun h49 => absurd (kb.mp (Decidable.not_not.mp h49)) g2)
        refine Ev_aload rfl rfl rfl ?_
        refine Ev_getR rfl (by first | rfl | assumption) (hρ _ _ _ rfl) ?_
        refine Ev_const rfl ?_
        refine Ev_callV rfl rfl rfl rfl rfl (same_n 402) (t_takeW _ (i := 24) hρ hT (by decide) H.1) ?_
        rintro v86 ρ86 σ86 ⟨rfl, e86, s86, c86⟩
        refine Ev_norm (by rw [wl_all, decide_eq_true g3] : _ = bI true) ?_
        obtain rfl := e86.symm
        rw [wl_all] at s86
        have H86 := H.tx hO s86 c86
        refine Ev_if_eq rfl (fun h89 => absurd h89 (by decide)) (fun h89 => ?_)
        refine Ev_aload rfl rfl rfl ?_
        refine Ev_getR rfl (by first | rfl | assumption) hO1 ?_
        refine Ev_const rfl ?_
        refine Ev_callV rfl rfl rfl ((OrdO_of hρ hO).1) rfl (same_n 402) (FPr.all hρ hO H86) ?_
        rintro v97 ρ97 σ97 ⟨rfl, e97, H97, c97⟩
        obtain rfl := e97.symm
        refine Ev_goto rfl ?_
        exact Ev_return rfl rfl rfl ⟨rfl, rfl, H97, (cTt_Fo c86).tr c97⟩
      · rw [if_neg g3]
        -- behind the first sum
        have rest : ∀ (σ2 : St) (y : Xs), FPr σ2 U O bs k y → CF (cFo O bs) σ σ2 → Ev l X (d + 10) 36 108 [.ref 318, .int (nI o), .float 0] [] 402 402 402 ρ σ2 (fun v ρ' σ' => v = none ∧ ρ' = ρ ∧ FPr σ' U O bs k (em (sgT U y.1) (smX U k n D (onX (sgS U) y))) ∧ CF (cFo O bs) σ σ') := by
          intro σ2 y H2 c2
          have k60 := H2.1.hs (c := 60) hT (by decide)
          have k62 := H2.1.hs (c := 62) hT (by decide)
          have fin : ∀ (σ3 : St) (t : Nat), sgT U y.1 = t → cc t = t → FPr σ3 U O bs k (onX (sgS U) y) → CF (cFo O bs) σ σ3 → Ev l X (d + 10) 36 176 [.ref 318, .int (nI o), .int (nI t)] [] 402 402 402 ρ σ3 (fun v ρ' σ' => v = none ∧ ρ' = ρ ∧ FPr σ' U O bs k (em (sgT U y.1) (smX U k n D (onX (sgS U) y))) ∧ CF (cFo O bs) σ σ') := by
            intro σ3 t ht hct H3 c3
            subst ht
            refine Ev_aload rfl rfl rfl ?_
            refine Ev_iload rfl rfl ?_
            refine Ev_callV rfl rfl rfl rfl rfl (same_n 402) (hf _ _ _ (by omega) H3) ?_
            rintro v178 ρ178 σ178 ⟨rfl, e178, H178, c178⟩
            obtain rfl := e178.symm
            refine Ev_aload rfl rfl rfl ?_
            refine Ev_getR rfl (by first | rfl | assumption) hO1 ?_
            refine Ev_iload rfl rfl ?_
            refine Ev_callV rfl rfl rfl ((OrdO_of hρ hO).1) rfl (same_n 402) (FPr.addE hρ hO hct H178) ?_
            rintro v186 ρ186 σ186 ⟨rfl, e186, H186, c186⟩
            obtain rfl := e186.symm
            exact Ev_return rfl rfl rfl ⟨rfl, rfl, H186, (c3.tr c178).tr c186⟩
          by_cases z1 : lkC U y.1 = some 60
          · have et : sgT U y.1 = 40 := if_pos z1
            have es : sgS U y.1 = aSg U 60 y.1 := by unfold sgS aSg; rw [if_pos z1, if_pos z1]
            refine Ev_aload rfl rfl rfl ?_
            refine Ev_getR rfl (by first | rfl | assumption) (hρ _ _ _ rfl) ?_
            refine Ev_getI rfl (by first | rfl | assumption) ?_
            refine Ev_const rfl ?_
            refine Ev_icmp_ne rfl (fun h117 => absurd (k60.mpr z1) h117) (fun h117 => ?_)
            refine Ev_const rfl ?_
            refine Ev_goto rfl ?_
            refine Ev_istore rfl ?_
            refine Ev_aload rfl rfl rfl ?_
            refine Ev_getR rfl (by first | rfl | assumption) (hρ _ _ _ rfl) ?_
            refine Ev_iload rfl rfl ?_
            refine Ev_const rfl ?_
            refine Ev_icmp_ne rfl (fun h152 => absurd rfl h152) (fun h152 => ?_)
            refine Ev_const rfl ?_
            refine Ev_goto rfl ?_
            refine Ev_callV rfl rfl rfl rfl rfl (same_n 402) (FPr.askE (c := 60) hρ hT hO (by decide) H2) ?_
            rintro v173 ρ173 σ173 ⟨rfl, e173, H173, c173⟩
            obtain rfl := e173.symm
            exact fin σ173 40 et rfl (by unfold onX at H173 ⊢; rw [es]; exact H173) (c2.tr c173)
          · by_cases z2 : lkC U y.1 = some 62
            · have et : sgT U y.1 = 41 := by unfold sgT; rw [if_neg z1, if_pos z2]
              have es : sgS U y.1 = aSg U 62 y.1 := by unfold sgS aSg; rw [if_neg z1, if_pos z2, if_pos z2]
              refine Ev_aload rfl rfl rfl ?_
              refine Ev_getR rfl (by first | rfl | assumption) (hρ _ _ _ rfl) ?_
              refine Ev_getI rfl (by first | rfl | assumption) ?_
              refine Ev_const rfl ?_
              refine Ev_icmp_ne rfl (fun h117 => ?_) (fun h117 => absurd (k60.mp (Decidable.not_not.mp h117)) z1)
              refine Ev_aload rfl rfl rfl ?_
              refine Ev_getR rfl (by first | rfl | assumption) (hρ _ _ _ rfl) ?_
              refine Ev_getI rfl (by first | rfl | assumption) ?_
              refine Ev_const rfl ?_
              refine Ev_icmp_ne rfl (fun h134 => absurd (k62.mpr z2) h134) (fun h134 => ?_)
              refine Ev_const rfl ?_
              refine Ev_goto rfl ?_
              refine Ev_istore rfl ?_
              refine Ev_aload rfl rfl rfl ?_
              refine Ev_getR rfl (by first | rfl | assumption) (hρ _ _ _ rfl) ?_
              refine Ev_iload rfl rfl ?_
              refine Ev_const rfl ?_
              refine Ev_icmp_ne rfl (fun h152 => ?_) (fun h152 => absurd h152 (by decide))
              refine Ev_iload rfl rfl ?_
              refine Ev_const rfl ?_
              refine Ev_icmp_ne rfl (fun h163 => absurd rfl h163) (fun h163 => ?_)
              refine Ev_const rfl ?_
              refine Ev_goto rfl ?_
              refine Ev_callV rfl rfl rfl rfl rfl (same_n 402) (FPr.askE (c := 62) hρ hT hO (by decide) H2) ?_
              rintro v173 ρ173 σ173 ⟨rfl, e173, H173, c173⟩
              obtain rfl := e173.symm
              exact fin σ173 41 et rfl (by unfold onX at H173 ⊢; rw [es]; exact H173) (c2.tr c173)
            · have et : sgT U y.1 = 42 := by unfold sgT; rw [if_neg z1, if_neg z2]
              have es : sgS U y.1 = aSg U 61 y.1 := by unfold sgS; rw [if_neg z1, if_neg z2]
              refine Ev_aload rfl rfl rfl ?_
              refine Ev_getR rfl (by first | rfl | assumption) (hρ _ _ _ rfl) ?_
              refine Ev_getI rfl (by first | rfl | assumption) ?_
              refine Ev_const rfl ?_
              refine Ev_icmp_ne rfl (fun h117 => ?_) (fun h117 => absurd (k60.mp (Decidable.not_not.mp h117)) z1)
              refine Ev_aload rfl rfl rfl ?_
              refine Ev_getR rfl (by first | rfl | assumption) (hρ _ _ _ rfl) ?_
              refine Ev_getI rfl (by first | rfl | assumption) ?_
              refine Ev_const rfl ?_
              refine Ev_icmp_ne rfl (fun h134 => ?_) (fun h134 => absurd (k62.mp (Decidable.not_not.mp h134)) z2)
              refine Ev_const rfl ?_
              refine Ev_istore rfl ?_
              refine Ev_aload rfl rfl rfl ?_
              refine Ev_getR rfl (by first | rfl | assumption) (hρ _ _ _ rfl) ?_
              refine Ev_iload rfl rfl ?_
              refine Ev_const rfl ?_
              refine Ev_icmp_ne rfl (fun h152 => ?_) (fun h152 => absurd h152 (by decide))
              refine Ev_iload rfl rfl ?_
              refine Ev_const rfl ?_
              refine Ev_icmp_ne rfl (fun h163 => ?_) (fun h163 => absurd h163 (by decide))
              refine Ev_const rfl ?_
              refine Ev_callV rfl rfl rfl rfl rfl (same_n 402) (FPr.askE (c := 61) hρ hT hO (by decide) H2) ?_
              rintro v173 ρ173 σ173 ⟨rfl, e173, H173, c173⟩
              obtain rfl := e173.symm
              exact fin σ173 42 et rfl (by unfold onX at H173 ⊢; rw [es]; exact H173) (c2.tr c173)
        refine T_of rfl ?_
        refine Ev_aload rfl rfl rfl ?_
        refine Ev_getR rfl (by first | rfl | assumption) (hρ _ _ _ rfl) ?_
        refine Ev_getI rfl (by first | rfl | assumption) ?_
        refine Ev_const rfl ?_
        refine Ev_icmp_ne rfl (fun h10 => ?_) (fun h10 => absurd (kn.mp (Decidable.not_not.mp h10)) g1)
        refine Ev_aload rfl rfl rfl ?_
        refine Ev_getR rfl (by first | rfl | assumption) (hρ _ _ _ rfl) ?_
        refine Ev_getI rfl (by first | rfl | assumption) ?_
        refine Ev_const rfl ?_
        refine Ev_icmp_ne rfl (fun h49 => ?_) (fun h49 => absurd (kb.mp (Decidable.not_not.mp h49)) g2)
        refine Ev_aload rfl rfl rfl ?_
        refine Ev_getR rfl (by first | rfl | assumption) (hρ _ _ _ rfl) ?_
        refine Ev_const rfl ?_
        refine Ev_callV rfl rfl rfl rfl rfl (same_n 402) (t_takeW _ (i := 24) hρ hT (by decide) H.1) ?_
        rintro v86 ρ86 σ86 ⟨rfl, e86, s86, c86⟩
        refine Ev_norm (by rw [wl_all, decide_eq_false g3] : _ = bI false) ?_
        obtain rfl := e86.symm
        rw [wl_all, tWd_n g3] at s86
        have H86 := H.tx hO s86 c86
        refine Ev_if_eq rfl (fun h89 => ?_) (fun h89 => absurd rfl h89)
        refine Ev_aload rfl rfl rfl ?_
        refine Ev_iload rfl rfl ?_
        refine Ev_callV rfl rfl rfl rfl rfl (same_n 402) (hf _ _ _ (by omega) H86) ?_
        rintro v105 ρ105 σ105 ⟨rfl, e105, H105, c105⟩
        obtain rfl := e105.symm
        exact rest σ105 _ H105 ((cTt_Fo c86).tr c105)
theorem t_both {o n K : Nat} {D : Lv} (hρ : RF ρ) (hT : TxW U) (hO : OkO O) (hO1 : ρ 318 1 = some O) (hK : 10 ≤ K) (hf : FoT l X ρ U O bs k 36 o (K + 3) (fcX U k n D)) : FoT l X ρ U O bs k 35 o (K + 4) (boX U k n D) := by
  intro d σ x hd H
  obtain ⟨d, rfl⟩ : ∃ e, d = e + 10 := ⟨d - 10, by omega⟩
  have loop : ∀ (m c : Nat) (σ1 : St) (y : Xs), c + m = 1600 → FPr σ1 U O bs k y → CF (cFo O bs) σ σ1 → Ev l X (d + 10) 35 7 [.ref 318, .int (nI o), .int (nI c)] [] 402 402 402 ρ σ1 (FoQ O bs U k ρ σ (woL U (fcX U k n D) wAnd 43 m y)) := by
    intro m
    induction m with
    | zero =>
      intro c σ1 y hc H1 c1
      have hc : c = 1600 := by omega
      subst hc
      refine Ev_iload rfl rfl ?_
      refine Ev_const rfl ?_
      refine Ev_icmp_ge rfl (fun h11 => ?_) (fun h11 => absurd (by decide) h11)
      exact Ev_return rfl rfl rfl ⟨rfl, rfl, H1, c1⟩
    | succ m ih =>
      intro c σ1 y hc H1 c1
      have e : woL U (fcX U k n D) wAnd 43 (m + 1) y = if wAt U y.1 = wAnd then woL U (fcX U k n D) wAnd 43 m (em 43 (fcX U k n D (tWd U wAnd y.1, y.2))) else (lkS U y.1, y.2) := rfl
      rw [e]
      refine Ev_iload rfl rfl ?_
      refine Ev_const rfl ?_
      refine Ev_icmp_ge rfl (fun h11 => absurd h11 (nI_ge (b := 1600) (by omega) (by decide))) (fun h11 => ?_)
      refine Ev_aload rfl rfl rfl ?_
      refine Ev_getR rfl (by first | rfl | assumption) (hρ _ _ _ rfl) ?_
      refine Ev_const rfl ?_
      refine Ev_callV rfl rfl rfl rfl rfl (same_n 402) (t_takeW _ (i := 22) hρ hT (by decide) H1.1) ?_
      rintro v21 ρ21 σ21 ⟨rfl, e21, s21, c21⟩
      refine Ev_norm (by rw [wl_and] : _ = bI (decide (wAt U y.1 = wAnd))) ?_
      obtain rfl := e21.symm
      rw [wl_and] at s21
      refine Ev_if_eq rfl (fun h24 => ?_) (fun h24 => ?_)
      · exact Ev_return rfl rfl rfl (by
        have z1 := of_decide_eq_false (ff_of h24)
        rw [tWd_n z1] at s21
        rw [if_neg z1]
        exact ⟨rfl, rfl, H1.tx hO s21 c21, c1.tr (cTt_Fo c21)⟩)
      · have z1 := of_decide_eq_true (rt_of h24)
        rw [if_pos z1]
        have H21 := H1.tx hO s21 c21
        refine Ev_aload rfl rfl rfl ?_
        refine Ev_iload rfl rfl ?_
        refine Ev_callV rfl rfl rfl rfl rfl (same_n 402) (hf _ _ _ (by omega) H21) ?_
        rintro v29 ρ29 σ29 ⟨rfl, e29, H29, c29⟩
        obtain rfl := e29.symm
        refine Ev_aload rfl rfl rfl ?_
        refine Ev_getR rfl (by first | rfl | assumption) hO1 ?_
        refine Ev_const rfl ?_
        refine Ev_callV rfl rfl rfl ((OrdO_of hρ hO).1) rfl (same_n 402) (FPr.addE (t := 43) hρ hO rfl H29) ?_
        rintro v38 ρ38 σ38 ⟨rfl, e38, H38, c38⟩
        obtain rfl := e38.symm
        refine Ev_iincE rfl rfl (nI_1 c) ?_
        refine Ev_goto rfl ?_
        exact ih (c + 1) σ38 _ (by omega) H38 (((c1.tr (cTt_Fo c21)).tr c29).tr c38)
  refine T_of rfl ?_
  refine Ev_aload rfl rfl rfl ?_
  refine Ev_iload rfl rfl ?_
  refine Ev_callV rfl rfl rfl rfl rfl (same_n 402) (hf _ _ _ (by omega) H) ?_
  rintro v2 ρ2 σ2 ⟨rfl, e2, H2, c2⟩
  obtain rfl := e2.symm
  refine Ev_const rfl ?_
  refine Ev_istore rfl ?_
  exact loop 1600 0 σ2 _ (by decide) H2 c2
theorem t_test {o n K : Nat} {D : Lv} (hρ : RF ρ) (hT : TxW U) (hO : OkO O) (hO1 : ρ 318 1 = some O) (hK : 10 ≤ K) (hf : FoT l X ρ U O bs k 35 o (K + 4) (boX U k n D)) : FoT l X ρ U O bs k 34 o (K + 5) (teX U k n D) := by
  intro d σ x hd H
  obtain ⟨d, rfl⟩ : ∃ e, d = e + 10 := ⟨d - 10, by omega⟩
  have loop : ∀ (m c : Nat) (σ1 : St) (y : Xs), c + m = 1600 → FPr σ1 U O bs k y → CF (cFo O bs) σ σ1 → Ev l X (d + 10) 34 7 [.ref 318, .int (nI o), .int (nI c)] [] 402 402 402 ρ σ1 (FoQ O bs U k ρ σ (woL U (boX U k n D) wOr 44 m y)) := by
    intro m
    induction m with
    | zero =>
      intro c σ1 y hc H1 c1
      have hc : c = 1600 := by omega
      subst hc
      refine Ev_iload rfl rfl ?_
      refine Ev_const rfl ?_
      refine Ev_icmp_ge rfl (fun h11 => ?_) (fun h11 => absurd (by decide) h11)
      exact Ev_return rfl rfl rfl ⟨rfl, rfl, H1, c1⟩
    | succ m ih =>
      intro c σ1 y hc H1 c1
      have e : woL U (boX U k n D) wOr 44 (m + 1) y = if wAt U y.1 = wOr then woL U (boX U k n D) wOr 44 m (em 44 (boX U k n D (tWd U wOr y.1, y.2))) else (lkS U y.1, y.2) := rfl
      rw [e]
      refine Ev_iload rfl rfl ?_
      refine Ev_const rfl ?_
      refine Ev_icmp_ge rfl (fun h11 => absurd h11 (nI_ge (b := 1600) (by omega) (by decide))) (fun h11 => ?_)
      refine Ev_aload rfl rfl rfl ?_
      refine Ev_getR rfl (by first | rfl | assumption) (hρ _ _ _ rfl) ?_
      refine Ev_const rfl ?_
      refine Ev_callV rfl rfl rfl rfl rfl (same_n 402) (t_takeW _ (i := 21) hρ hT (by decide) H1.1) ?_
      rintro v21 ρ21 σ21 ⟨rfl, e21, s21, c21⟩
      refine Ev_norm (by rw [wl_or] : _ = bI (decide (wAt U y.1 = wOr))) ?_
      obtain rfl := e21.symm
      rw [wl_or] at s21
      refine Ev_if_eq rfl (fun h24 => ?_) (fun h24 => ?_)
      · exact Ev_return rfl rfl rfl (by
        have z1 := of_decide_eq_false (ff_of h24)
        rw [tWd_n z1] at s21
        rw [if_neg z1]
        exact ⟨rfl, rfl, H1.tx hO s21 c21, c1.tr (cTt_Fo c21)⟩)
      · have z1 := of_decide_eq_true (rt_of h24)
        rw [if_pos z1]
        have H21 := H1.tx hO s21 c21
        refine Ev_aload rfl rfl rfl ?_
        refine Ev_iload rfl rfl ?_
        refine Ev_callV rfl rfl rfl rfl rfl (same_n 402) (hf _ _ _ (by omega) H21) ?_
        rintro v29 ρ29 σ29 ⟨rfl, e29, H29, c29⟩
        obtain rfl := e29.symm
        refine Ev_aload rfl rfl rfl ?_
        refine Ev_getR rfl (by first | rfl | assumption) hO1 ?_
        refine Ev_const rfl ?_
        refine Ev_callV rfl rfl rfl ((OrdO_of hρ hO).1) rfl (same_n 402) (FPr.addE (t := 44) hρ hO rfl H29) ?_
        rintro v38 ρ38 σ38 ⟨rfl, e38, H38, c38⟩
        obtain rfl := e38.symm
        refine Ev_iincE rfl rfl (nI_1 c) ?_
        refine Ev_goto rfl ?_
        exact ih (c + 1) σ38 _ (by omega) H38 (((c1.tr (cTt_Fo c21)).tr c29).tr c38)
  refine T_of rfl ?_
  refine Ev_aload rfl rfl rfl ?_
  refine Ev_iload rfl rfl ?_
  refine Ev_callV rfl rfl rfl rfl rfl (same_n 402) (hf _ _ _ (by omega) H) ?_
  rintro v2 ρ2 σ2 ⟨rfl, e2, H2, c2⟩
  obtain rfl := e2.symm
  refine Ev_const rfl ?_
  refine Ev_istore rfl ?_
  exact loop 1600 0 σ2 _ (by decide) H2 c2
/-- all levels -/
theorem t_lvl {hk5 : k < 5} (hρ : RF ρ) (hT : TxW U) (hO : OkO O) (hO1 : ρ 318 1 = some O) : ∀ (n o : Nat), o + n = 6 → LvT l X ρ U O bs k o (10 + 4 * n) (lvl U k n) := by
  have key : ∀ (n o K' : Nat) (D : Lv), o + n = 6 → 6 ≤ K' → (n ≠ 0 → LvT l X ρ U O bs k (o + 1) K' D) → LvT l X ρ U O bs k o (K' + 4) (lvX U k n D) := by
    intro n o K' D ho hK hD
    have hp := t_part (l := l) (X := X) hρ hT hO hO1 hk5 ho hK hD
    have hpr := t_product (K := K' + 4) hρ hT hO hO1 (by omega) hp
    have hsm := t_sum (K := K' + 4) hρ hT hO hO1 (by omega) hpr
    have hfc := t_fact (K := K' + 4) hρ hT hO hO1 ho (by omega) (Nat.le_refl _) hD hsm
    have hbo := t_both (K := K' + 4) hρ hT hO hO1 (by omega) hfc
    have hte := t_test (K := K' + 4) hρ hT hO hO1 (by omega) hbo
    exact ⟨hfc, hte, hsm, hp⟩
  intro n
  induction n with
  | zero =>
    intro o ho
    exact key 0 o 6 _ ho (Nat.le_refl _) (fun z => absurd rfl z)
  | succ n ih =>
    intro o ho
    have := key (n + 1) o (10 + 4 * n) (lvl U k n) ho (by omega) (fun _ => ih (o + 1) (by omega))
    rw [show 10 + 4 * (n + 1) = 10 + 4 * n + 4 by omega]
    exact this
end S88o
