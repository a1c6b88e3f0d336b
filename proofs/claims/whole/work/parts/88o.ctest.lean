/-! A formula read: the class's products, sums, facts, tests. -/
section S88o
variable {l : Launch} {X : Cx} {ρ : Rf} {U : Tx} {O bs k : Nat}
theorem t_product {o n K : Nat} {D : Lv} (hρ : RF ρ) (hT : TxW U) (hO : OkO O) (hO1 : ρ 318 1 = some O) (hK : 10 ≤ K) (hf : FoT l X ρ U O bs k 44 o (K + 0) (parX U k n D)) : FoT l X ρ U O bs k 43 o (K + 1) (prX U k n D) := by
  intro d σ x hd H
  obtain ⟨d, rfl⟩ : ∃ e, d = e + 10 := ⟨d - 10, by omega⟩
  have loop : ∀ (m c : Nat) (σ1 : St) (y : Xs) (w3 : Value), c + m = 1600 → FPr σ1 U O bs k y → CF (cFo O bs) σ σ1 → Ev l X (d + 10) 43 7 [.ref 318, .int (nI o), .int (nI c), w3] [] 400 400 400 ρ σ1 (FoQ O bs U k ρ σ (twL U (parX U k n D) 42 47 38 39 m y)) := by
    intro m
    induction m with
    | zero =>
      intro c σ1 y w3 hc H1 c1
      have hc : c = 1600 := by omega
      subst hc
      refine Ev_iload rfl rfl ?_
      refine Ev_const rfl ?_
      refine Ev_icmp_ge rfl (fun h11 => ?_) (fun h11 => absurd (by decide) h11)
      exact Ev_return rfl rfl rfl ⟨rfl, rfl, H1, c1⟩
    | succ m ih =>
      intro c σ1 y w3 hc H1 c1
      have e : twL U (parX U k n D) 42 47 38 39 (m + 1) y = if lkC U y.1 = some 42 then twL U (parX U k n D) 42 47 38 39 m (em 38 (parX U k n D (tSg U 42 y.1, y.2))) else if lkC U y.1 = some 47 then twL U (parX U k n D) 42 47 38 39 m (em 39 (parX U k n D (tSg U 47 y.1, y.2))) else (lkS U y.1, y.2) := rfl
      rw [e]
      refine Ev_iload rfl rfl ?_
      refine Ev_const rfl ?_
      refine Ev_icmp_ge rfl (fun h11 => absurd h11 (nI_ge (b := 1600) (by omega) (by decide))) (fun h11 => ?_)
      refine Ev_aload rfl rfl rfl ?_
      refine Ev_getR rfl (by first | rfl | assumption) (hρ _ _ _ rfl) ?_
      refine Ev_const rfl ?_
      refine Ev_callV rfl rfl rfl rfl rfl (same_n 400) (t_takeSign _ (c := 42) hρ hT (by decide) H1.1) ?_
      rintro v20 ρ20 σ20 ⟨rfl, e20, s20, c20⟩
      obtain rfl := e20.symm
      refine Ev_if_eq rfl (fun h23 => ?_) (fun h23 => ?_)
      · have z1 := of_decide_eq_false (ff_of h23)
        rw [if_neg z1]
        rw [tSg_n z1] at s20
        have H20 := H1.tx hO s20 c20
        refine Ev_aload rfl rfl rfl ?_
        refine Ev_getR rfl (by first | rfl | assumption) (hρ _ _ _ rfl) ?_
        refine Ev_const rfl ?_
        refine Ev_callV rfl rfl rfl rfl rfl (same_n 400) (t_takeSign _ (c := 47) hρ hT (by decide) s20) ?_
        rintro v37 ρ37 σ37 ⟨rfl, e37, s37, c37⟩
        refine Ev_norm (by rw [lkC_i] : _ = bI (decide (lkC U y.1 = some 47))) ?_
        obtain rfl := e37.symm
        rw [tSg_i] at s37
        refine Ev_if_eq rfl (fun h40 => ?_) (fun h40 => ?_)
        · have z2 := of_decide_eq_false (ff_of h40)
          rw [if_neg z2]
          rw [tSg_n z2] at s37
          have H37 := H1.tx hO s37 (c20.tr c37)
          refine Ev_const rfl ?_
          refine Ev_istore rfl ?_
          refine Ev_iload rfl rfl ?_
          refine Ev_const rfl ?_
          refine Ev_icmp_ne rfl (fun h52 => absurd rfl h52) (fun h52 => ?_)
          exact Ev_return rfl rfl rfl ⟨rfl, rfl, H37, c1.tr (cTt_Fo (c20.tr c37))⟩
        · have z2 := of_decide_eq_true (rt_of h40)
          rw [if_pos z2]
          have H37 := H1.tx hO s37 (c20.tr c37)
          refine Ev_const rfl ?_
          refine Ev_goto rfl ?_
          refine Ev_istore rfl ?_
          refine Ev_iload rfl rfl ?_
          refine Ev_const rfl ?_
          refine Ev_icmp_ne rfl (fun h52 => ?_) (fun h52 => absurd (by decide) h52)
          refine Ev_aload rfl rfl rfl ?_
          refine Ev_iload rfl rfl ?_
          refine Ev_callV rfl rfl rfl rfl rfl (same_n 400) (hf _ _ _ (by omega) H37) ?_
          rintro v58 ρ58 σ58 ⟨rfl, e58, H58, c58⟩
          obtain rfl := e58.symm
          refine Ev_aload rfl rfl rfl ?_
          refine Ev_getR rfl (by first | rfl | assumption) hO1 ?_
          refine Ev_iload rfl rfl ?_
          refine Ev_callV rfl rfl rfl ((OrdO_of hρ hO).1) rfl (same_n 400) (FPr.addE (t := 39) hρ hO rfl H58) ?_
          rintro v66 ρ66 σ66 ⟨rfl, e66, H66, c66⟩
          obtain rfl := e66.symm
          refine Ev_iincE rfl rfl (nI_1 c) ?_
          refine Ev_goto rfl ?_
          exact ih (c + 1) σ66 _ _ (by omega) H66 (((c1.tr (cTt_Fo (c20.tr c37))).tr c58).tr c66)
      · have z1 := of_decide_eq_true (rt_of h23)
        rw [if_pos z1]
        have H20 := H1.tx hO s20 c20
        refine Ev_const rfl ?_
        refine Ev_goto rfl ?_
        refine Ev_istore rfl ?_
        refine Ev_iload rfl rfl ?_
        refine Ev_const rfl ?_
        refine Ev_icmp_ne rfl (fun h52 => ?_) (fun h52 => absurd (by decide) h52)
        refine Ev_aload rfl rfl rfl ?_
        refine Ev_iload rfl rfl ?_
        refine Ev_callV rfl rfl rfl rfl rfl (same_n 400) (hf _ _ _ (by omega) H20) ?_
        rintro v58 ρ58 σ58 ⟨rfl, e58, H58, c58⟩
        obtain rfl := e58.symm
        refine Ev_aload rfl rfl rfl ?_
        refine Ev_getR rfl (by first | rfl | assumption) hO1 ?_
        refine Ev_iload rfl rfl ?_
        refine Ev_callV rfl rfl rfl ((OrdO_of hρ hO).1) rfl (same_n 400) (FPr.addE (t := 38) hρ hO rfl H58) ?_
        rintro v66 ρ66 σ66 ⟨rfl, e66, H66, c66⟩
        obtain rfl := e66.symm
        refine Ev_iincE rfl rfl (nI_1 c) ?_
        refine Ev_goto rfl ?_
        exact ih (c + 1) σ66 _ _ (by omega) H66 (((c1.tr (cTt_Fo c20)).tr c58).tr c66)
  refine T_of rfl ?_
  refine Ev_aload rfl rfl rfl ?_
  refine Ev_iload rfl rfl ?_
  refine Ev_callV rfl rfl rfl rfl rfl (same_n 400) (hf _ _ _ (by omega) H) ?_
  rintro v2 ρ2 σ2 ⟨rfl, e2, H2, c2⟩
  obtain rfl := e2.symm
  refine Ev_const rfl ?_
  refine Ev_istore rfl ?_
  exact loop 1600 0 σ2 _ (.float 0) (by decide) H2 c2
theorem t_sum {o n K : Nat} {D : Lv} (hρ : RF ρ) (hT : TxW U) (hO : OkO O) (hO1 : ρ 318 1 = some O) (hK : 10 ≤ K) (hf : FoT l X ρ U O bs k 43 o (K + 1) (prX U k n D)) : FoT l X ρ U O bs k 42 o (K + 2) (smX U k n D) := by
  intro d σ x hd H
  obtain ⟨d, rfl⟩ : ∃ e, d = e + 10 := ⟨d - 10, by omega⟩
  have loop : ∀ (m c : Nat) (σ1 : St) (y : Xs) (w3 : Value), c + m = 1600 → FPr σ1 U O bs k y → CF (cFo O bs) σ σ1 → Ev l X (d + 10) 42 7 [.ref 318, .int (nI o), .int (nI c), w3] [] 400 400 400 ρ σ1 (FoQ O bs U k ρ σ (twL U (prX U k n D) 43 45 36 37 m y)) := by
    intro m
    induction m with
    | zero =>
      intro c σ1 y w3 hc H1 c1
      have hc : c = 1600 := by omega
      subst hc
      refine Ev_iload rfl rfl ?_
      refine Ev_const rfl ?_
      refine Ev_icmp_ge rfl (fun h11 => ?_) (fun h11 => absurd (by decide) h11)
      exact Ev_return rfl rfl rfl ⟨rfl, rfl, H1, c1⟩
    | succ m ih =>
      intro c σ1 y w3 hc H1 c1
      have e : twL U (prX U k n D) 43 45 36 37 (m + 1) y = if lkC U y.1 = some 43 then twL U (prX U k n D) 43 45 36 37 m (em 36 (prX U k n D (tSg U 43 y.1, y.2))) else if lkC U y.1 = some 45 then twL U (prX U k n D) 43 45 36 37 m (em 37 (prX U k n D (tSg U 45 y.1, y.2))) else (lkS U y.1, y.2) := rfl
      rw [e]
      refine Ev_iload rfl rfl ?_
      refine Ev_const rfl ?_
      refine Ev_icmp_ge rfl (fun h11 => absurd h11 (nI_ge (b := 1600) (by omega) (by decide))) (fun h11 => ?_)
      refine Ev_aload rfl rfl rfl ?_
      refine Ev_getR rfl (by first | rfl | assumption) (hρ _ _ _ rfl) ?_
      refine Ev_const rfl ?_
      refine Ev_callV rfl rfl rfl rfl rfl (same_n 400) (t_takeSign _ (c := 43) hρ hT (by decide) H1.1) ?_
      rintro v20 ρ20 σ20 ⟨rfl, e20, s20, c20⟩
      obtain rfl := e20.symm
      refine Ev_if_eq rfl (fun h23 => ?_) (fun h23 => ?_)
      · have z1 := of_decide_eq_false (ff_of h23)
        rw [if_neg z1]
        rw [tSg_n z1] at s20
        have H20 := H1.tx hO s20 c20
        refine Ev_aload rfl rfl rfl ?_
        refine Ev_getR rfl (by first | rfl | assumption) (hρ _ _ _ rfl) ?_
        refine Ev_const rfl ?_
        refine Ev_callV rfl rfl rfl rfl rfl (same_n 400) (t_takeSign _ (c := 45) hρ hT (by decide) s20) ?_
        rintro v37 ρ37 σ37 ⟨rfl, e37, s37, c37⟩
        refine Ev_norm (by rw [lkC_i] : _ = bI (decide (lkC U y.1 = some 45))) ?_
        obtain rfl := e37.symm
        rw [tSg_i] at s37
        refine Ev_if_eq rfl (fun h40 => ?_) (fun h40 => ?_)
        · have z2 := of_decide_eq_false (ff_of h40)
          rw [if_neg z2]
          rw [tSg_n z2] at s37
          have H37 := H1.tx hO s37 (c20.tr c37)
          refine Ev_const rfl ?_
          refine Ev_istore rfl ?_
          refine Ev_iload rfl rfl ?_
          refine Ev_const rfl ?_
          refine Ev_icmp_ne rfl (fun h52 => absurd rfl h52) (fun h52 => ?_)
          exact Ev_return rfl rfl rfl ⟨rfl, rfl, H37, c1.tr (cTt_Fo (c20.tr c37))⟩
        · have z2 := of_decide_eq_true (rt_of h40)
          rw [if_pos z2]
          have H37 := H1.tx hO s37 (c20.tr c37)
          refine Ev_const rfl ?_
          refine Ev_goto rfl ?_
          refine Ev_istore rfl ?_
          refine Ev_iload rfl rfl ?_
          refine Ev_const rfl ?_
          refine Ev_icmp_ne rfl (fun h52 => ?_) (fun h52 => absurd (by decide) h52)
          refine Ev_aload rfl rfl rfl ?_
          refine Ev_iload rfl rfl ?_
          refine Ev_callV rfl rfl rfl rfl rfl (same_n 400) (hf _ _ _ (by omega) H37) ?_
          rintro v58 ρ58 σ58 ⟨rfl, e58, H58, c58⟩
          obtain rfl := e58.symm
          refine Ev_aload rfl rfl rfl ?_
          refine Ev_getR rfl (by first | rfl | assumption) hO1 ?_
          refine Ev_iload rfl rfl ?_
          refine Ev_callV rfl rfl rfl ((OrdO_of hρ hO).1) rfl (same_n 400) (FPr.addE (t := 37) hρ hO rfl H58) ?_
          rintro v66 ρ66 σ66 ⟨rfl, e66, H66, c66⟩
          obtain rfl := e66.symm
          refine Ev_iincE rfl rfl (nI_1 c) ?_
          refine Ev_goto rfl ?_
          exact ih (c + 1) σ66 _ _ (by omega) H66 (((c1.tr (cTt_Fo (c20.tr c37))).tr c58).tr c66)
      · have z1 := of_decide_eq_true (rt_of h23)
        rw [if_pos z1]
        have H20 := H1.tx hO s20 c20
        refine Ev_const rfl ?_
        refine Ev_goto rfl ?_
        refine Ev_istore rfl ?_
        refine Ev_iload rfl rfl ?_
        refine Ev_const rfl ?_
        refine Ev_icmp_ne rfl (fun h52 => ?_) (fun h52 => absurd (by decide) h52)
        refine Ev_aload rfl rfl rfl ?_
        refine Ev_iload rfl rfl ?_
        refine Ev_callV rfl rfl rfl rfl rfl (same_n 400) (hf _ _ _ (by omega) H20) ?_
        rintro v58 ρ58 σ58 ⟨rfl, e58, H58, c58⟩
        obtain rfl := e58.symm
        refine Ev_aload rfl rfl rfl ?_
        refine Ev_getR rfl (by first | rfl | assumption) hO1 ?_
        refine Ev_iload rfl rfl ?_
        refine Ev_callV rfl rfl rfl ((OrdO_of hρ hO).1) rfl (same_n 400) (FPr.addE (t := 36) hρ hO rfl H58) ?_
        rintro v66 ρ66 σ66 ⟨rfl, e66, H66, c66⟩
        obtain rfl := e66.symm
        refine Ev_iincE rfl rfl (nI_1 c) ?_
        refine Ev_goto rfl ?_
        exact ih (c + 1) σ66 _ _ (by omega) H66 (((c1.tr (cTt_Fo c20)).tr c58).tr c66)
  refine T_of rfl ?_
  refine Ev_aload rfl rfl rfl ?_
  refine Ev_iload rfl rfl ?_
  refine Ev_callV rfl rfl rfl rfl rfl (same_n 400) (hf _ _ _ (by omega) H) ?_
  rintro v2 ρ2 σ2 ⟨rfl, e2, H2, c2⟩
  obtain rfl := e2.symm
  refine Ev_const rfl ?_
  refine Ev_istore rfl ?_
  exact loop 1600 0 σ2 _ (.float 0) (by decide) H2 c2
theorem cc_sg (U : Tx) (s : Rdg) : cc (sgT U s) = sgT U s := by
  unfold sgT
  split
  · rfl
  · split <;> rfl
theorem FPr.all {d : Nat} {σ : St} {x : Xs} (hρ : RF ρ) (hO : OkO O) (H : FPr σ U O bs k x) : T l X (d + 1) 70 [.ref O, .int 1] 400 400 ρ σ (FoQ O bs U k ρ σ (em 47 x)) := by
  refine T_of rfl ?_
  refine Ev_aload rfl rfl rfl ?_
  refine Ev_iload rfl rfl ?_
  refine Ev_const rfl ?_
  refine Ev_ishl rfl ?_
  refine Ev_const rfl ?_
  refine Ev_ior rfl ?_
  refine Ev_norm (num_or (v := 1) (by decide) : _ = nI 288) ?_
  refine Ev_callV rfl rfl rfl ((OrdO_of hρ hO).1) rfl (same_n 400) (FPr.add (t := 47) hρ hO H) ?_
  rintro v8 ρ8 σ8 ⟨rfl, e8, H8, c8⟩
  obtain rfl := e8.symm
  exact Ev_return rfl rfl rfl ⟨rfl, rfl, H8, c8⟩
theorem t_fact {o n K K' : Nat} {D : Lv} (hρ : RF ρ) (hT : TxW U) (hO : OkO O) (hO1 : ρ 318 1 = some O) (ho : o + n = 6) (hK : 10 ≤ K) (hKK : K' + 4 ≤ K) (hD : n ≠ 0 → LvT l X ρ U O bs k (o + 1) K' D) (hf : FoT l X ρ U O bs k 42 o (K + 2) (smX U k n D)) : FoT l X ρ U O bs k 39 o (K + 3) (fcX U k n D) := by
  intro d σ x hd H
  obtain ⟨d, rfl⟩ : ∃ e, d = e + 10 := ⟨d - 10, by omega⟩
  have hev := lkV_eq (lkC_256 (s := x.1) hT) (show 91 < 256 by decide)
  refine T_of rfl ?_
  refine Ev_aload rfl rfl rfl ?_
  refine Ev_getR rfl (by first | rfl | assumption) (hρ _ _ _ rfl) ?_
  refine Ev_str rfl ?_
  refine Ev_callV rfl rfl rfl rfl rfl (same_n 400) (t_seesWord _ (q := 11) hρ hT (by decide) (wl_l (by decide) (by decide)) (wl_ok 11 (by decide) (by decide)).2 H.1) ?_
  rintro v6 ρ6 σ6 ⟨rfl, e6, s6, c6⟩
  refine Ev_norm (by rw [wl_not] : _ = bI (decide (wAt U x.1 = wNot))) ?_
  obtain rfl := e6.symm
  have H6 := H.tx hO s6 c6
  refine Ev_if_eq rfl (fun h9 => ?_) (fun h9 => ?_)
  · have g1 := of_decide_eq_false (ff_of h9)
    unfold fcX
    rw [if_neg g1]
    refine Ev_aload rfl rfl rfl ?_
    refine Ev_getR rfl (by first | rfl | assumption) (hρ _ _ _ rfl) ?_
    refine Ev_callV rfl rfl rfl rfl rfl (same_n 400) (t_look _ hρ hT s6) ?_
    rintro v53 ρ53 σ53 ⟨rfl, e53, s53, c53⟩
    refine Ev_norm (by rw [lkC_i] : _ = lkV (lkC U x.1)) ?_
    obtain rfl := e53.symm
    rw [lkS_i] at s53
    have H53 := H6.tx hO s53 c53
    refine Ev_const rfl ?_
    refine Ev_icmp_ne rfl (fun h58 => ?_) (fun h58 => ?_)
    · have g2 : ¬ lkC U x.1 = some 91 := fun z => h58 (hev.mpr z)
      rw [if_neg g2]
      refine Ev_aload rfl rfl rfl ?_
      refine Ev_getR rfl (by first | rfl | assumption) (hρ _ _ _ rfl) ?_
      refine Ev_str rfl ?_
      refine Ev_callV rfl rfl rfl rfl rfl (same_n 400) (t_takeWord _ (q := 12) hρ hT (by decide) (wl_l (by decide) (by decide)) (wl_ok 12 (by decide) (by decide)).2 s53) ?_
      rintro v104 ρ104 σ104 ⟨rfl, e104, s104, c104⟩
      refine Ev_norm (by rw [wl_all, wAt_i] : _ = bI (decide (wAt U x.1 = wAll))) ?_
      obtain rfl := e104.symm
      rw [wl_all] at s104
      refine Ev_if_eq rfl (fun h107 => ?_) (fun h107 => ?_)
      · have g3 := of_decide_eq_false (ff_of h107)
        rw [if_neg g3]
        rw [tWd_i, tWd_n g3] at s104
        have H104 := H53.tx hO s104 c104
        refine Ev_aload rfl rfl rfl ?_
        refine Ev_iload rfl rfl ?_
        refine Ev_callV rfl rfl rfl rfl rfl (same_n 400) (hf _ _ _ (by omega) H104) ?_
        rintro v123 ρ123 σ123 ⟨rfl, e123, H123, c123⟩
        obtain rfl := e123.symm
        refine Ev_aload rfl rfl rfl ?_
        refine Ev_callV rfl rfl rfl rfl rfl (same_n 400) (t_takenSign _ hρ hT H123.1) ?_
        rintro v127 ρ127 σ127 ⟨rfl, e127, s127, c127⟩
        obtain rfl := e127.symm
        have H127 := H123.tx hO s127 c127
        refine Ev_istore rfl ?_
        refine Ev_aload rfl rfl rfl ?_
        refine Ev_iload rfl rfl ?_
        refine Ev_callV rfl rfl rfl rfl rfl (same_n 400) (hf _ _ _ (by omega) H127) ?_
        rintro v133 ρ133 σ133 ⟨rfl, e133, H133, c133⟩
        obtain rfl := e133.symm
        refine Ev_aload rfl rfl rfl ?_
        refine Ev_getR rfl (by first | rfl | assumption) hO1 ?_
        refine Ev_iload rfl rfl ?_
        refine Ev_callV rfl rfl rfl ((OrdO_of hρ hO).1) rfl (same_n 400) (FPr.addE hρ hO (cc_sg U _) H133) ?_
        rintro v141 ρ141 σ141 ⟨rfl, e141, H141, c141⟩
        obtain rfl := e141.symm
        exact Ev_return rfl rfl rfl ⟨rfl, rfl, H141, ((((cTt_Fo ((c6.tr c53).tr c104)).tr c123).tr (cTt_Fo c127)).tr c133).tr c141⟩
      · have g3 := of_decide_eq_true (rt_of h107)
        rw [if_pos g3]
        have H104 := H53.tx hO s104 c104
        refine Ev_aload rfl rfl rfl ?_
        refine Ev_getR rfl (by first | rfl | assumption) hO1 ?_
        refine Ev_const rfl ?_
        refine Ev_callV rfl rfl rfl ((OrdO_of hρ hO).1) rfl (same_n 400) (FPr.all hρ hO H104) ?_
        rintro v115 ρ115 σ115 ⟨rfl, e115, H115, c115⟩
        obtain rfl := e115.symm
        refine Ev_goto rfl ?_
        exact Ev_return rfl rfl rfl ⟨rfl, rfl, H115, (cTt_Fo ((c6.tr c53).tr c104)).tr c115⟩
    · have g2 := hev.mp (Decidable.not_not.mp h58)
      rw [if_pos g2]
      refine Ev_aload rfl rfl rfl ?_
      refine Ev_iload rfl rfl ?_
      refine Ev_callV rfl rfl rfl rfl rfl (same_n 400) (t_mayOpen _ hρ ho s53) ?_
      rintro v63 ρ63 σ63 ⟨rfl, e63, s63, c63⟩
      obtain rfl := e63.symm
      have H63 := H53.tx hO s63 c63
      refine Ev_if_eq rfl (fun h66 => ?_) (fun h66 => ?_)
      · exact Ev_return rfl rfl rfl (by
        rw [ff_of h66]
        exact ⟨rfl, rfl, H63, cTt_Fo ((c6.tr c53).tr c63)⟩)
      · refine Ev_aload rfl rfl rfl ?_
        refine Ev_getR rfl (by first | rfl | assumption) (hρ _ _ _ rfl) ?_
        refine Ev_const rfl ?_
        refine Ev_callV rfl rfl rfl rfl rfl (same_n 400) (t_takeSign _ (c := 91) hρ hT (by decide) s63) ?_
        rintro v75 ρ75 σ75 ⟨rfl, e75, s75, c75⟩
        obtain rfl := e75.symm
        have H75 := H63.tx hO s75 c75
        have hok := rt_of h66
        refine Ev_pop rfl (fun _ q => nomatch q) ?_
        refine Ev_aload rfl rfl rfl ?_
        refine Ev_iload rfl rfl ?_
        refine Ev_const rfl ?_
        refine Ev_iadd rfl ?_
        refine Ev_norm (nI_1 o) ?_
        refine Ev_callV rfl rfl rfl rfl rfl (same_n 400) ((hD (mo_n0 hok)).2.1 _ _ _ (by omega) H75) ?_
        rintro v83 ρ83 σ83 ⟨rfl, e83, H83, c83⟩
        obtain rfl := e83.symm
        refine Ev_aload rfl rfl rfl ?_
        refine Ev_getR rfl (by first | rfl | assumption) (hρ _ _ _ rfl) ?_
        refine Ev_const rfl ?_
        refine Ev_callV rfl rfl rfl rfl rfl (same_n 400) (FPr.ask (c := 93) hρ hT hO (by decide) H83) ?_
        rintro v92 ρ92 σ92 ⟨rfl, e92, H92, c92⟩
        obtain rfl := e92.symm
        refine Ev_goto rfl ?_
        exact Ev_return rfl rfl rfl (by
        rw [hok]
        exact ⟨rfl, rfl, H92, ((cTt_Fo (((c6.tr c53).tr c63).tr c75)).tr c83).tr c92⟩)
  · have g1 := of_decide_eq_true (rt_of h9)
    unfold fcX
    rw [if_pos g1]
    refine Ev_aload rfl rfl rfl ?_
    refine Ev_iload rfl rfl ?_
    refine Ev_callV rfl rfl rfl rfl rfl (same_n 400) (t_mayOpen _ hρ ho s6) ?_
    rintro v14 ρ14 σ14 ⟨rfl, e14, s14, c14⟩
    obtain rfl := e14.symm
    have H14 := H6.tx hO s14 c14
    refine Ev_if_eq rfl (fun h17 => ?_) (fun h17 => ?_)
    · exact Ev_return rfl rfl rfl (by
      rw [ff_of h17]
      exact ⟨rfl, rfl, H14, cTt_Fo (c6.tr c14)⟩)
    · refine Ev_aload rfl rfl rfl ?_
      refine Ev_getR rfl (by first | rfl | assumption) (hρ _ _ _ rfl) ?_
      refine Ev_str rfl ?_
      refine Ev_callV rfl rfl rfl rfl rfl (same_n 400) (t_takeWord _ (q := 11) hρ hT (by decide) (wl_l (by decide) (by decide)) (wl_ok 11 (by decide) (by decide)).2 s14) ?_
      rintro v26 ρ26 σ26 ⟨rfl, e26, s26, c26⟩
      obtain rfl := e26.symm
      rw [wl_not] at s26
      have H26 := H14.tx hO s26 c26
      have hok := rt_of h17
      refine Ev_pop rfl (fun _ q => nomatch q) ?_
      refine Ev_aload rfl rfl rfl ?_
      refine Ev_iload rfl rfl ?_
      refine Ev_const rfl ?_
      refine Ev_iadd rfl ?_
      refine Ev_norm (nI_1 o) ?_
      refine Ev_callV rfl rfl rfl rfl rfl (same_n 400) ((hD (mo_n0 hok)).1 _ _ _ (by omega) H26) ?_
      rintro v34 ρ34 σ34 ⟨rfl, e34, H34, c34⟩
      obtain rfl := e34.symm
      refine Ev_aload rfl rfl rfl ?_
      refine Ev_getR rfl (by first | rfl | assumption) hO1 ?_
      refine Ev_const rfl ?_
      refine Ev_callV rfl rfl rfl ((OrdO_of hρ hO).1) rfl (same_n 400) (FPr.addE (t := 33) hρ hO rfl H34) ?_
      rintro v43 ρ43 σ43 ⟨rfl, e43, H43, c43⟩
      obtain rfl := e43.symm
      refine Ev_goto rfl ?_
      exact Ev_return rfl rfl rfl (by
      rw [hok]
      exact ⟨rfl, rfl, H43, ((cTt_Fo ((c6.tr c14).tr c26)).tr c34).tr c43⟩)
theorem t_both {o n K : Nat} {D : Lv} (hρ : RF ρ) (hT : TxW U) (hO : OkO O) (hO1 : ρ 318 1 = some O) (hK : 10 ≤ K) (hf : FoT l X ρ U O bs k 39 o (K + 3) (fcX U k n D)) : FoT l X ρ U O bs k 38 o (K + 4) (boX U k n D) := by
  intro d σ x hd H
  obtain ⟨d, rfl⟩ : ∃ e, d = e + 10 := ⟨d - 10, by omega⟩
  have loop : ∀ (m c : Nat) (σ1 : St) (y : Xs), c + m = 1600 → FPr σ1 U O bs k y → CF (cFo O bs) σ σ1 → Ev l X (d + 10) 38 7 [.ref 318, .int (nI o), .int (nI c)] [] 400 400 400 ρ σ1 (FoQ O bs U k ρ σ (woL U (fcX U k n D) wAnd 43 m y)) := by
    intro m
    induction m with
    | zero =>
      intro c σ1 y hc H1 c1
      have hc : c = 1600 := by omega
      subst hc
      refine Ev_iload rfl rfl ?_
      refine Ev_const rfl ?_
      refine Ev_icmp_ge rfl (fun h11 => ?_) (fun h11 => absurd (by decide) h11)
      exact Ev_return rfl rfl rfl ⟨rfl, rfl, H1, c1⟩
    | succ m ih =>
      intro c σ1 y hc H1 c1
      have e : woL U (fcX U k n D) wAnd 43 (m + 1) y = if wAt U y.1 = wAnd then woL U (fcX U k n D) wAnd 43 m (em 43 (fcX U k n D (tWd U wAnd y.1, y.2))) else (lkS U y.1, y.2) := rfl
      rw [e]
      refine Ev_iload rfl rfl ?_
      refine Ev_const rfl ?_
      refine Ev_icmp_ge rfl (fun h11 => absurd h11 (nI_ge (b := 1600) (by omega) (by decide))) (fun h11 => ?_)
      refine Ev_aload rfl rfl rfl ?_
      refine Ev_getR rfl (by first | rfl | assumption) (hρ _ _ _ rfl) ?_
      refine Ev_str rfl ?_
      refine Ev_callV rfl rfl rfl rfl rfl (same_n 400) (t_takeWord _ (q := 26) hρ hT (by decide) (wl_l (by decide) (by decide)) (wl_ok 26 (by decide) (by decide)).2 H1.1) ?_
      rintro v20 ρ20 σ20 ⟨rfl, e20, s20, c20⟩
      refine Ev_norm (by rw [wl_and] : _ = bI (decide (wAt U y.1 = wAnd))) ?_
      obtain rfl := e20.symm
      rw [wl_and] at s20
      refine Ev_if_eq rfl (fun h23 => ?_) (fun h23 => ?_)
      · exact Ev_return rfl rfl rfl (by
        have z1 := of_decide_eq_false (ff_of h23)
        rw [tWd_n z1] at s20
        rw [if_neg z1]
        exact ⟨rfl, rfl, H1.tx hO s20 c20, c1.tr (cTt_Fo c20)⟩)
      · have z1 := of_decide_eq_true (rt_of h23)
        rw [if_pos z1]
        have H20 := H1.tx hO s20 c20
        refine Ev_aload rfl rfl rfl ?_
        refine Ev_iload rfl rfl ?_
        refine Ev_callV rfl rfl rfl rfl rfl (same_n 400) (hf _ _ _ (by omega) H20) ?_
        rintro v28 ρ28 σ28 ⟨rfl, e28, H28, c28⟩
        obtain rfl := e28.symm
        refine Ev_aload rfl rfl rfl ?_
        refine Ev_getR rfl (by first | rfl | assumption) hO1 ?_
        refine Ev_const rfl ?_
        refine Ev_callV rfl rfl rfl ((OrdO_of hρ hO).1) rfl (same_n 400) (FPr.addE (t := 43) hρ hO rfl H28) ?_
        rintro v37 ρ37 σ37 ⟨rfl, e37, H37, c37⟩
        obtain rfl := e37.symm
        refine Ev_iincE rfl rfl (nI_1 c) ?_
        refine Ev_goto rfl ?_
        exact ih (c + 1) σ37 _ (by omega) H37 (((c1.tr (cTt_Fo c20)).tr c28).tr c37)
  refine T_of rfl ?_
  refine Ev_aload rfl rfl rfl ?_
  refine Ev_iload rfl rfl ?_
  refine Ev_callV rfl rfl rfl rfl rfl (same_n 400) (hf _ _ _ (by omega) H) ?_
  rintro v2 ρ2 σ2 ⟨rfl, e2, H2, c2⟩
  obtain rfl := e2.symm
  refine Ev_const rfl ?_
  refine Ev_istore rfl ?_
  exact loop 1600 0 σ2 _ (by decide) H2 c2
theorem t_test {o n K : Nat} {D : Lv} (hρ : RF ρ) (hT : TxW U) (hO : OkO O) (hO1 : ρ 318 1 = some O) (hK : 10 ≤ K) (hf : FoT l X ρ U O bs k 38 o (K + 4) (boX U k n D)) : FoT l X ρ U O bs k 37 o (K + 5) (teX U k n D) := by
  intro d σ x hd H
  obtain ⟨d, rfl⟩ : ∃ e, d = e + 10 := ⟨d - 10, by omega⟩
  have loop : ∀ (m c : Nat) (σ1 : St) (y : Xs), c + m = 1600 → FPr σ1 U O bs k y → CF (cFo O bs) σ σ1 → Ev l X (d + 10) 37 7 [.ref 318, .int (nI o), .int (nI c)] [] 400 400 400 ρ σ1 (FoQ O bs U k ρ σ (woL U (boX U k n D) wOr 44 m y)) := by
    intro m
    induction m with
    | zero =>
      intro c σ1 y hc H1 c1
      have hc : c = 1600 := by omega
      subst hc
      refine Ev_iload rfl rfl ?_
      refine Ev_const rfl ?_
      refine Ev_icmp_ge rfl (fun h11 => ?_) (fun h11 => absurd (by decide) h11)
      exact Ev_return rfl rfl rfl ⟨rfl, rfl, H1, c1⟩
    | succ m ih =>
      intro c σ1 y hc H1 c1
      have e : woL U (boX U k n D) wOr 44 (m + 1) y = if wAt U y.1 = wOr then woL U (boX U k n D) wOr 44 m (em 44 (boX U k n D (tWd U wOr y.1, y.2))) else (lkS U y.1, y.2) := rfl
      rw [e]
      refine Ev_iload rfl rfl ?_
      refine Ev_const rfl ?_
      refine Ev_icmp_ge rfl (fun h11 => absurd h11 (nI_ge (b := 1600) (by omega) (by decide))) (fun h11 => ?_)
      refine Ev_aload rfl rfl rfl ?_
      refine Ev_getR rfl (by first | rfl | assumption) (hρ _ _ _ rfl) ?_
      refine Ev_str rfl ?_
      refine Ev_callV rfl rfl rfl rfl rfl (same_n 400) (t_takeWord _ (q := 27) hρ hT (by decide) (wl_l (by decide) (by decide)) (wl_ok 27 (by decide) (by decide)).2 H1.1) ?_
      rintro v20 ρ20 σ20 ⟨rfl, e20, s20, c20⟩
      refine Ev_norm (by rw [wl_or] : _ = bI (decide (wAt U y.1 = wOr))) ?_
      obtain rfl := e20.symm
      rw [wl_or] at s20
      refine Ev_if_eq rfl (fun h23 => ?_) (fun h23 => ?_)
      · exact Ev_return rfl rfl rfl (by
        have z1 := of_decide_eq_false (ff_of h23)
        rw [tWd_n z1] at s20
        rw [if_neg z1]
        exact ⟨rfl, rfl, H1.tx hO s20 c20, c1.tr (cTt_Fo c20)⟩)
      · have z1 := of_decide_eq_true (rt_of h23)
        rw [if_pos z1]
        have H20 := H1.tx hO s20 c20
        refine Ev_aload rfl rfl rfl ?_
        refine Ev_iload rfl rfl ?_
        refine Ev_callV rfl rfl rfl rfl rfl (same_n 400) (hf _ _ _ (by omega) H20) ?_
        rintro v28 ρ28 σ28 ⟨rfl, e28, H28, c28⟩
        obtain rfl := e28.symm
        refine Ev_aload rfl rfl rfl ?_
        refine Ev_getR rfl (by first | rfl | assumption) hO1 ?_
        refine Ev_const rfl ?_
        refine Ev_callV rfl rfl rfl ((OrdO_of hρ hO).1) rfl (same_n 400) (FPr.addE (t := 44) hρ hO rfl H28) ?_
        rintro v37 ρ37 σ37 ⟨rfl, e37, H37, c37⟩
        obtain rfl := e37.symm
        refine Ev_iincE rfl rfl (nI_1 c) ?_
        refine Ev_goto rfl ?_
        exact ih (c + 1) σ37 _ (by omega) H37 (((c1.tr (cTt_Fo c20)).tr c28).tr c37)
  refine T_of rfl ?_
  refine Ev_aload rfl rfl rfl ?_
  refine Ev_iload rfl rfl ?_
  refine Ev_callV rfl rfl rfl rfl rfl (same_n 400) (hf _ _ _ (by omega) H) ?_
  rintro v2 ρ2 σ2 ⟨rfl, e2, H2, c2⟩
  obtain rfl := e2.symm
  refine Ev_const rfl ?_
  refine Ev_istore rfl ?_
  exact loop 1600 0 σ2 _ (by decide) H2 c2
/-- all levels -/
theorem t_lvl {hk5 : k < 5} (hρ : RF ρ) (hT : TxW U) (hO : OkO O) (hO1 : ρ 318 1 = some O) : ∀ (n o : Nat), o + n = 6 → LvT l X ρ U O bs k o (10 + 4 * n) (lvl U k n) := by
  have key : ∀ (n o K' : Nat) (D : Lv), o + n = 6 → 6 ≤ K' → (n ≠ 0 → LvT l X ρ U O bs k (o + 1) K' D) → LvT l X ρ U O bs k o (K' + 4) (lvX U k n D) := by
    intro n o K' D ho hK hD
    have hp := t_part (l := l) (X := X) hρ hT hO hO1 hk5 ho hK hD
    have hpr := t_product (K := K' + 4) hρ hT hO hO1 (by omega) hp
    have hsm := t_sum (K := K' + 4) hρ hT hO hO1 (by omega) hpr
    have hfc := t_fact (K := K' + 4) hρ hT hO hO1 ho (by omega) (Nat.le_refl _) hD hsm
    have hbo := t_both (K := K' + 4) hρ hT hO hO1 (by omega) hfc
    have hte := t_test (K := K' + 4) hρ hT hO hO1 (by omega) hbo
    exact ⟨hfc, hte, hsm, hp⟩
  intro n
  induction n with
  | zero =>
    intro o ho
    exact key 0 o 6 _ ho (Nat.le_refl _) (fun z => absurd rfl z)
  | succ n ih =>
    intro o ho
    have := key (n + 1) o (10 + 4 * n) (lvl U k n) ho (by omega) (fun _ => ih (o + 1) (by omega))
    rw [show 10 + 4 * (n + 1) = 10 + 4 * n + 4 by omega]
    exact this
end S88o
