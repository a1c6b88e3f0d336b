/-! A formula read: the class's sights. -/
section S88m
variable {l : Launch} {X : Cx} {ρ : Rf} {U : Tx}
theorem t_takenSight (d : Nat) {σ : St} {s : Rdg} {k : Nat} (hρ : RF ρ) (hT : TxW U) (hk5 : k < 5) (hs : lkS U s = s) (H : CTt σ U s) (hk : σ.1 318 2 = nI k) :
    T l X (d + 7) 47 [.ref 318] 400 400 ρ σ (fun v ρ' σ' => v = some (.int (sgV (sgF k (wAt U s)))) ∧ ρ' = ρ ∧ CTt σ' U (tkSg U k s) ∧ CF cTt σ σ') := by
  rcases (by omega : k = 0 ∨ k = 1 ∨ k = 2 ∨ k = 3 ∨ k = 4) with rfl | rfl | rfl | rfl | rfl
  · refine T_of rfl ?_
    refine Ev_aload rfl rfl rfl ?_
    refine Ev_getR rfl (by first | rfl | assumption) (hρ _ _ _ rfl) ?_
    refine Ev_str rfl ?_
    refine Ev_callV rfl rfl rfl rfl rfl (same_n 400) (tk_word _ (q := 17) hρ hT (by decide) (by decide) wl_sg.1 hs H) ?_
    rintro v6 ρ6 σ6 ⟨rfl, e6, s6, c6⟩
    obtain rfl := e6.symm
    refine Ev_if_eq rfl (fun h9 => ?_) (fun h9 => ?_)
    · have z0 := of_decide_eq_false (ff_of h9)
      rw [if_neg z0] at s6
      refine Ev_aload rfl rfl rfl ?_
      refine Ev_getI rfl (by first | rfl | assumption) ?_
      refine Ev_norm (by rw [c6.1 318 _ (cTt_f (by decide))]; exact hk : _ = nI 0) ?_
      refine Ev_if_eq rfl (fun h18 => ?_) (fun h18 => absurd (by decide) h18)
      refine Ev_aload rfl rfl rfl ?_
      refine Ev_getI rfl (by first | rfl | assumption) ?_
      refine Ev_norm (by rw [c6.1 318 _ (cTt_f (by decide))]; exact hk : _ = nI 0) ?_
      refine Ev_if_eq rfl (fun h39 => ?_) (fun h39 => absurd (by decide) h39)
      refine Ev_aload rfl rfl rfl ?_
      refine Ev_getI rfl (by first | rfl | assumption) ?_
      refine Ev_norm (by rw [c6.1 318 _ (cTt_f (by decide))]; exact hk : _ = nI 0) ?_
      refine Ev_if_eq rfl (fun h60 => ?_) (fun h60 => absurd (by decide) h60)
      refine Ev_aload rfl rfl rfl ?_
      refine Ev_getI rfl (by first | rfl | assumption) ?_
      refine Ev_norm (by rw [c6.1 318 _ (cTt_f (by decide))]; exact hk : _ = nI 0) ?_
      refine Ev_if_eq rfl (fun h89 => ?_) (fun h89 => absurd (by decide) h89)
      refine Ev_aload rfl rfl rfl ?_
      refine Ev_getI rfl (by first | rfl | assumption) ?_
      refine Ev_norm (by rw [c6.1 318 _ (cTt_f (by decide))]; exact hk : _ = nI 0) ?_
      refine Ev_if_eq rfl (fun h118 => ?_) (fun h118 => absurd (by decide) h118)
      refine Ev_aload rfl rfl rfl ?_
      refine Ev_getI rfl (by first | rfl | assumption) ?_
      refine Ev_norm (by rw [c6.1 318 _ (cTt_f (by decide))]; exact hk : _ = nI 0) ?_
      refine Ev_const rfl ?_
      refine Ev_icmp_ne rfl (fun h148 => ?_) (fun h148 => absurd (by decide) h148)
      refine Ev_aload rfl rfl rfl ?_
      refine Ev_getI rfl (by first | rfl | assumption) ?_
      refine Ev_norm (by rw [c6.1 318 _ (cTt_f (by decide))]; exact hk : _ = nI 0) ?_
      refine Ev_const rfl ?_
      refine Ev_icmp_ne rfl (fun h171 => ?_) (fun h171 => absurd (by decide) h171)
      refine Ev_aload rfl rfl rfl ?_
      refine Ev_getI rfl (by first | rfl | assumption) ?_
      refine Ev_norm (by rw [c6.1 318 _ (cTt_f (by decide))]; exact hk : _ = nI 0) ?_
      refine Ev_const rfl ?_
      refine Ev_icmp_ne rfl (fun h194 => ?_) (fun h194 => absurd (by decide) h194)
      refine Ev_const rfl ?_
      exact Ev_ireturn rfl rfl rfl rfl (by
      have hn : sgF 0 (wAt U s) = none := by
        unfold sgF
        rw [if_neg z0, if_neg (fun z => absurd z.1 (by decide)), if_neg (fun z => absurd z.1 (by decide)), if_neg (fun z => absurd z.1 (by decide)), if_neg (fun z => absurd z.1 (by decide)), if_neg (fun z => absurd z.1 (by decide)), if_neg (fun z => absurd z.1 (by decide)), if_neg (fun z => absurd z.1 (by decide)), if_neg (fun z => absurd z.1 (by decide))]
      unfold tkSg
      rw [hn, hs]
      exact ⟨rfl, rfl, s6, c6⟩)
    · refine Ev_const rfl ?_
      exact Ev_ireturn rfl rfl rfl rfl (by
      have hz := of_decide_eq_true (rt_of h9)
      rw [if_pos hz] at s6
      unfold tkSg
      rw [show sgF 0 (wAt U s) = some 0 by rw [hz]; decide, hs]
      exact ⟨rfl, rfl, s6, c6⟩)
  · refine T_of rfl ?_
    refine Ev_aload rfl rfl rfl ?_
    refine Ev_getR rfl (by first | rfl | assumption) (hρ _ _ _ rfl) ?_
    refine Ev_str rfl ?_
    refine Ev_callV rfl rfl rfl rfl rfl (same_n 400) (tk_word _ (q := 17) hρ hT (by decide) (by decide) wl_sg.1 hs H) ?_
    rintro v6 ρ6 σ6 ⟨rfl, e6, s6, c6⟩
    obtain rfl := e6.symm
    refine Ev_if_eq rfl (fun h9 => ?_) (fun h9 => ?_)
    · have z0 := of_decide_eq_false (ff_of h9)
      rw [if_neg z0] at s6
      refine Ev_aload rfl rfl rfl ?_
      refine Ev_getI rfl (by first | rfl | assumption) ?_
      refine Ev_norm (by rw [c6.1 318 _ (cTt_f (by decide))]; exact hk : _ = nI 1) ?_
      refine Ev_if_eq rfl (fun h18 => absurd h18 (by decide)) (fun h18 => ?_)
      refine Ev_aload rfl rfl rfl ?_
      refine Ev_getR rfl (by first | rfl | assumption) (hρ _ _ _ rfl) ?_
      refine Ev_str rfl ?_
      refine Ev_callV rfl rfl rfl rfl rfl (same_n 400) (tk_word _ (q := 18) hρ hT (by decide) (by decide) wl_sg.2.1 hs s6) ?_
      rintro v27 ρ27 σ27 ⟨rfl, e27, s27, c27⟩
      obtain rfl := e27.symm
      have c27 := c6.tr c27
      refine Ev_if_eq rfl (fun h30 => ?_) (fun h30 => ?_)
      · have z2 := of_decide_eq_false (ff_of h30)
        rw [if_neg z2] at s27
        refine Ev_aload rfl rfl rfl ?_
        refine Ev_getI rfl (by first | rfl | assumption) ?_
        refine Ev_norm (by rw [c27.1 318 _ (cTt_f (by decide))]; exact hk : _ = nI 1) ?_
        refine Ev_if_eq rfl (fun h39 => absurd h39 (by decide)) (fun h39 => ?_)
        refine Ev_aload rfl rfl rfl ?_
        refine Ev_getR rfl (by first | rfl | assumption) (hρ _ _ _ rfl) ?_
        refine Ev_str rfl ?_
        refine Ev_callV rfl rfl rfl rfl rfl (same_n 400) (tk_word _ (q := 19) hρ hT (by decide) (by decide) wl_sg.2.2.1 hs s27) ?_
        rintro v48 ρ48 σ48 ⟨rfl, e48, s48, c48⟩
        obtain rfl := e48.symm
        have c48 := c27.tr c48
        refine Ev_if_eq rfl (fun h51 => ?_) (fun h51 => ?_)
        · have z3 := of_decide_eq_false (ff_of h51)
          rw [if_neg z3] at s48
          refine Ev_aload rfl rfl rfl ?_
          refine Ev_getI rfl (by first | rfl | assumption) ?_
          refine Ev_norm (by rw [c48.1 318 _ (cTt_f (by decide))]; exact hk : _ = nI 1) ?_
          refine Ev_if_eq rfl (fun h60 => absurd h60 (by decide)) (fun h60 => ?_)
          refine Ev_aload rfl rfl rfl ?_
          refine Ev_getI rfl (by first | rfl | assumption) ?_
          refine Ev_norm (by rw [c48.1 318 _ (cTt_f (by decide))]; exact hk : _ = nI 1) ?_
          refine Ev_const rfl ?_
          refine Ev_icmp_eq rfl (fun h68 => absurd h68 (by decide)) (fun h68 => ?_)
          refine Ev_aload rfl rfl rfl ?_
          refine Ev_getR rfl (by first | rfl | assumption) (hρ _ _ _ rfl) ?_
          refine Ev_str rfl ?_
          refine Ev_callV rfl rfl rfl rfl rfl (same_n 400) (tk_word _ (q := 20) hρ hT (by decide) (by decide) wl_sg.2.2.2.1 hs s48) ?_
          rintro v77 ρ77 σ77 ⟨rfl, e77, s77, c77⟩
          obtain rfl := e77.symm
          have c77 := c48.tr c77
          refine Ev_if_eq rfl (fun h80 => ?_) (fun h80 => ?_)
          · have z1 := of_decide_eq_false (ff_of h80)
            rw [if_neg z1] at s77
            refine Ev_aload rfl rfl rfl ?_
            refine Ev_getI rfl (by first | rfl | assumption) ?_
            refine Ev_norm (by rw [c77.1 318 _ (cTt_f (by decide))]; exact hk : _ = nI 1) ?_
            refine Ev_if_eq rfl (fun h89 => absurd h89 (by decide)) (fun h89 => ?_)
            refine Ev_aload rfl rfl rfl ?_
            refine Ev_getI rfl (by first | rfl | assumption) ?_
            refine Ev_norm (by rw [c77.1 318 _ (cTt_f (by decide))]; exact hk : _ = nI 1) ?_
            refine Ev_const rfl ?_
            refine Ev_icmp_eq rfl (fun h97 => absurd h97 (by decide)) (fun h97 => ?_)
            refine Ev_aload rfl rfl rfl ?_
            refine Ev_getR rfl (by first | rfl | assumption) (hρ _ _ _ rfl) ?_
            refine Ev_str rfl ?_
            refine Ev_callV rfl rfl rfl rfl rfl (same_n 400) (tk_word _ (q := 21) hρ hT (by decide) (by decide) wl_sg.2.2.2.2.1 hs s77) ?_
            rintro v106 ρ106 σ106 ⟨rfl, e106, s106, c106⟩
            obtain rfl := e106.symm
            have c106 := c77.tr c106
            refine Ev_if_eq rfl (fun h109 => ?_) (fun h109 => ?_)
            · have z4 := of_decide_eq_false (ff_of h109)
              rw [if_neg z4] at s106
              refine Ev_aload rfl rfl rfl ?_
              refine Ev_getI rfl (by first | rfl | assumption) ?_
              refine Ev_norm (by rw [c106.1 318 _ (cTt_f (by decide))]; exact hk : _ = nI 1) ?_
              refine Ev_if_eq rfl (fun h118 => absurd h118 (by decide)) (fun h118 => ?_)
              refine Ev_aload rfl rfl rfl ?_
              refine Ev_getI rfl (by first | rfl | assumption) ?_
              refine Ev_norm (by rw [c106.1 318 _ (cTt_f (by decide))]; exact hk : _ = nI 1) ?_
              refine Ev_const rfl ?_
              refine Ev_icmp_eq rfl (fun h126 => absurd h126 (by decide)) (fun h126 => ?_)
              refine Ev_aload rfl rfl rfl ?_
              refine Ev_getR rfl (by first | rfl | assumption) (hρ _ _ _ rfl) ?_
              refine Ev_str rfl ?_
              refine Ev_callV rfl rfl rfl rfl rfl (same_n 400) (tk_word _ (q := 22) hρ hT (by decide) (by decide) wl_sg.2.2.2.2.2.1 hs s106) ?_
              rintro v135 ρ135 σ135 ⟨rfl, e135, s135, c135⟩
              obtain rfl := e135.symm
              have c135 := c106.tr c135
              refine Ev_if_eq rfl (fun h138 => ?_) (fun h138 => ?_)
              · have z5 := of_decide_eq_false (ff_of h138)
                rw [if_neg z5] at s135
                refine Ev_aload rfl rfl rfl ?_
                refine Ev_getI rfl (by first | rfl | assumption) ?_
                refine Ev_norm (by rw [c135.1 318 _ (cTt_f (by decide))]; exact hk : _ = nI 1) ?_
                refine Ev_const rfl ?_
                refine Ev_icmp_ne rfl (fun h148 => ?_) (fun h148 => absurd (by decide) h148)
                refine Ev_aload rfl rfl rfl ?_
                refine Ev_getI rfl (by first | rfl | assumption) ?_
                refine Ev_norm (by rw [c135.1 318 _ (cTt_f (by decide))]; exact hk : _ = nI 1) ?_
                refine Ev_const rfl ?_
                refine Ev_icmp_ne rfl (fun h171 => ?_) (fun h171 => absurd (by decide) h171)
                refine Ev_aload rfl rfl rfl ?_
                refine Ev_getI rfl (by first | rfl | assumption) ?_
                refine Ev_norm (by rw [c135.1 318 _ (cTt_f (by decide))]; exact hk : _ = nI 1) ?_
                refine Ev_const rfl ?_
                refine Ev_icmp_ne rfl (fun h194 => ?_) (fun h194 => absurd (by decide) h194)
                refine Ev_const rfl ?_
                exact Ev_ireturn rfl rfl rfl rfl (by
                have hn : sgF 1 (wAt U s) = none := by
                  unfold sgF
                  rw [if_neg z0, if_neg (fun z => z2 z.2), if_neg (fun z => z3 z.2), if_neg (fun z => z1 z.2), if_neg (fun z => z4 z.2), if_neg (fun z => z5 z.2), if_neg (fun z => absurd z.1 (by decide)), if_neg (fun z => absurd z.1 (by decide)), if_neg (fun z => absurd z.1 (by decide))]
                unfold tkSg
                rw [hn, hs]
                exact ⟨rfl, rfl, s135, c135⟩)
              · refine Ev_const rfl ?_
                exact Ev_ireturn rfl rfl rfl rfl (by
                have hz := of_decide_eq_true (rt_of h138)
                rw [if_pos hz] at s135
                unfold tkSg
                rw [show sgF 1 (wAt U s) = some 5 by rw [hz]; decide, hs]
                exact ⟨rfl, rfl, s135, c135⟩)
            · refine Ev_const rfl ?_
              exact Ev_ireturn rfl rfl rfl rfl (by
              have hz := of_decide_eq_true (rt_of h109)
              rw [if_pos hz] at s106
              unfold tkSg
              rw [show sgF 1 (wAt U s) = some 4 by rw [hz]; decide, hs]
              exact ⟨rfl, rfl, s106, c106⟩)
          · refine Ev_const rfl ?_
            exact Ev_ireturn rfl rfl rfl rfl (by
            have hz := of_decide_eq_true (rt_of h80)
            rw [if_pos hz] at s77
            unfold tkSg
            rw [show sgF 1 (wAt U s) = some 1 by rw [hz]; decide, hs]
            exact ⟨rfl, rfl, s77, c77⟩)
        · refine Ev_const rfl ?_
          exact Ev_ireturn rfl rfl rfl rfl (by
          have hz := of_decide_eq_true (rt_of h51)
          rw [if_pos hz] at s48
          unfold tkSg
          rw [show sgF 1 (wAt U s) = some 3 by rw [hz]; decide, hs]
          exact ⟨rfl, rfl, s48, c48⟩)
      · refine Ev_const rfl ?_
        exact Ev_ireturn rfl rfl rfl rfl (by
        have hz := of_decide_eq_true (rt_of h30)
        rw [if_pos hz] at s27
        unfold tkSg
        rw [show sgF 1 (wAt U s) = some 2 by rw [hz]; decide, hs]
        exact ⟨rfl, rfl, s27, c27⟩)
    · refine Ev_const rfl ?_
      exact Ev_ireturn rfl rfl rfl rfl (by
      have hz := of_decide_eq_true (rt_of h9)
      rw [if_pos hz] at s6
      unfold tkSg
      rw [show sgF 1 (wAt U s) = some 0 by rw [hz]; decide, hs]
      exact ⟨rfl, rfl, s6, c6⟩)
  · refine T_of rfl ?_
    refine Ev_aload rfl rfl rfl ?_
    refine Ev_getR rfl (by first | rfl | assumption) (hρ _ _ _ rfl) ?_
    refine Ev_str rfl ?_
    refine Ev_callV rfl rfl rfl rfl rfl (same_n 400) (tk_word _ (q := 17) hρ hT (by decide) (by decide) wl_sg.1 hs H) ?_
    rintro v6 ρ6 σ6 ⟨rfl, e6, s6, c6⟩
    obtain rfl := e6.symm
    refine Ev_if_eq rfl (fun h9 => ?_) (fun h9 => ?_)
    · have z0 := of_decide_eq_false (ff_of h9)
      rw [if_neg z0] at s6
      refine Ev_aload rfl rfl rfl ?_
      refine Ev_getI rfl (by first | rfl | assumption) ?_
      refine Ev_norm (by rw [c6.1 318 _ (cTt_f (by decide))]; exact hk : _ = nI 2) ?_
      refine Ev_if_eq rfl (fun h18 => absurd h18 (by decide)) (fun h18 => ?_)
      refine Ev_aload rfl rfl rfl ?_
      refine Ev_getR rfl (by first | rfl | assumption) (hρ _ _ _ rfl) ?_
      refine Ev_str rfl ?_
      refine Ev_callV rfl rfl rfl rfl rfl (same_n 400) (tk_word _ (q := 18) hρ hT (by decide) (by decide) wl_sg.2.1 hs s6) ?_
      rintro v27 ρ27 σ27 ⟨rfl, e27, s27, c27⟩
      obtain rfl := e27.symm
      have c27 := c6.tr c27
      refine Ev_if_eq rfl (fun h30 => ?_) (fun h30 => ?_)
      · have z2 := of_decide_eq_false (ff_of h30)
        rw [if_neg z2] at s27
        refine Ev_aload rfl rfl rfl ?_
        refine Ev_getI rfl (by first | rfl | assumption) ?_
        refine Ev_norm (by rw [c27.1 318 _ (cTt_f (by decide))]; exact hk : _ = nI 2) ?_
        refine Ev_if_eq rfl (fun h39 => absurd h39 (by decide)) (fun h39 => ?_)
        refine Ev_aload rfl rfl rfl ?_
        refine Ev_getR rfl (by first | rfl | assumption) (hρ _ _ _ rfl) ?_
        refine Ev_str rfl ?_
        refine Ev_callV rfl rfl rfl rfl rfl (same_n 400) (tk_word _ (q := 19) hρ hT (by decide) (by decide) wl_sg.2.2.1 hs s27) ?_
        rintro v48 ρ48 σ48 ⟨rfl, e48, s48, c48⟩
        obtain rfl := e48.symm
        have c48 := c27.tr c48
        refine Ev_if_eq rfl (fun h51 => ?_) (fun h51 => ?_)
        · have z3 := of_decide_eq_false (ff_of h51)
          rw [if_neg z3] at s48
          refine Ev_aload rfl rfl rfl ?_
          refine Ev_getI rfl (by first | rfl | assumption) ?_
          refine Ev_norm (by rw [c48.1 318 _ (cTt_f (by decide))]; exact hk : _ = nI 2) ?_
          refine Ev_if_eq rfl (fun h60 => absurd h60 (by decide)) (fun h60 => ?_)
          refine Ev_aload rfl rfl rfl ?_
          refine Ev_getI rfl (by first | rfl | assumption) ?_
          refine Ev_norm (by rw [c48.1 318 _ (cTt_f (by decide))]; exact hk : _ = nI 2) ?_
          refine Ev_const rfl ?_
          refine Ev_icmp_eq rfl (fun h68 => absurd h68 (by decide)) (fun h68 => ?_)
          refine Ev_aload rfl rfl rfl ?_
          refine Ev_getR rfl (by first | rfl | assumption) (hρ _ _ _ rfl) ?_
          refine Ev_str rfl ?_
          refine Ev_callV rfl rfl rfl rfl rfl (same_n 400) (tk_word _ (q := 20) hρ hT (by decide) (by decide) wl_sg.2.2.2.1 hs s48) ?_
          rintro v77 ρ77 σ77 ⟨rfl, e77, s77, c77⟩
          obtain rfl := e77.symm
          have c77 := c48.tr c77
          refine Ev_if_eq rfl (fun h80 => ?_) (fun h80 => ?_)
          · have z1 := of_decide_eq_false (ff_of h80)
            rw [if_neg z1] at s77
            refine Ev_aload rfl rfl rfl ?_
            refine Ev_getI rfl (by first | rfl | assumption) ?_
            refine Ev_norm (by rw [c77.1 318 _ (cTt_f (by decide))]; exact hk : _ = nI 2) ?_
            refine Ev_if_eq rfl (fun h89 => absurd h89 (by decide)) (fun h89 => ?_)
            refine Ev_aload rfl rfl rfl ?_
            refine Ev_getI rfl (by first | rfl | assumption) ?_
            refine Ev_norm (by rw [c77.1 318 _ (cTt_f (by decide))]; exact hk : _ = nI 2) ?_
            refine Ev_const rfl ?_
            refine Ev_icmp_eq rfl (fun h97 => ?_) (fun h97 => absurd (by decide) h97)
            refine Ev_aload rfl rfl rfl ?_
            refine Ev_getI rfl (by first | rfl | assumption) ?_
            refine Ev_norm (by rw [c77.1 318 _ (cTt_f (by decide))]; exact hk : _ = nI 2) ?_
            refine Ev_if_eq rfl (fun h118 => absurd h118 (by decide)) (fun h118 => ?_)
            refine Ev_aload rfl rfl rfl ?_
            refine Ev_getI rfl (by first | rfl | assumption) ?_
            refine Ev_norm (by rw [c77.1 318 _ (cTt_f (by decide))]; exact hk : _ = nI 2) ?_
            refine Ev_const rfl ?_
            refine Ev_icmp_eq rfl (fun h126 => ?_) (fun h126 => absurd (by decide) h126)
            refine Ev_aload rfl rfl rfl ?_
            refine Ev_getI rfl (by first | rfl | assumption) ?_
            refine Ev_norm (by rw [c77.1 318 _ (cTt_f (by decide))]; exact hk : _ = nI 2) ?_
            refine Ev_const rfl ?_
            refine Ev_icmp_ne rfl (fun h148 => absurd h148 (by decide)) (fun h148 => ?_)
            refine Ev_aload rfl rfl rfl ?_
            refine Ev_getR rfl (by first | rfl | assumption) (hρ _ _ _ rfl) ?_
            refine Ev_str rfl ?_
            refine Ev_callV rfl rfl rfl rfl rfl (same_n 400) (tk_word _ (q := 23) hρ hT (by decide) (by decide) wl_sg.2.2.2.2.2.2.1 hs s77) ?_
            rintro v157 ρ157 σ157 ⟨rfl, e157, s157, c157⟩
            obtain rfl := e157.symm
            have c157 := c77.tr c157
            refine Ev_if_eq rfl (fun h160 => ?_) (fun h160 => ?_)
            · have z6 := of_decide_eq_false (ff_of h160)
              rw [if_neg z6] at s157
              refine Ev_aload rfl rfl rfl ?_
              refine Ev_getI rfl (by first | rfl | assumption) ?_
              refine Ev_norm (by rw [c157.1 318 _ (cTt_f (by decide))]; exact hk : _ = nI 2) ?_
              refine Ev_const rfl ?_
              refine Ev_icmp_ne rfl (fun h171 => absurd h171 (by decide)) (fun h171 => ?_)
              refine Ev_aload rfl rfl rfl ?_
              refine Ev_getR rfl (by first | rfl | assumption) (hρ _ _ _ rfl) ?_
              refine Ev_str rfl ?_
              refine Ev_callV rfl rfl rfl rfl rfl (same_n 400) (tk_word _ (q := 24) hρ hT (by decide) (by decide) wl_sg.2.2.2.2.2.2.2.1 hs s157) ?_
              rintro v180 ρ180 σ180 ⟨rfl, e180, s180, c180⟩
              obtain rfl := e180.symm
              have c180 := c157.tr c180
              refine Ev_if_eq rfl (fun h183 => ?_) (fun h183 => ?_)
              · have z7 := of_decide_eq_false (ff_of h183)
                rw [if_neg z7] at s180
                refine Ev_aload rfl rfl rfl ?_
                refine Ev_getI rfl (by first | rfl | assumption) ?_
                refine Ev_norm (by rw [c180.1 318 _ (cTt_f (by decide))]; exact hk : _ = nI 2) ?_
                refine Ev_const rfl ?_
                refine Ev_icmp_ne rfl (fun h194 => ?_) (fun h194 => absurd (by decide) h194)
                refine Ev_const rfl ?_
                exact Ev_ireturn rfl rfl rfl rfl (by
                have hn : sgF 2 (wAt U s) = none := by
                  unfold sgF
                  rw [if_neg z0, if_neg (fun z => z2 z.2), if_neg (fun z => z3 z.2), if_neg (fun z => z1 z.2), if_neg (fun z => absurd z.1 (by decide)), if_neg (fun z => absurd z.1 (by decide)), if_neg (fun z => z6 z.2), if_neg (fun z => z7 z.2), if_neg (fun z => absurd z.1 (by decide))]
                unfold tkSg
                rw [hn, hs]
                exact ⟨rfl, rfl, s180, c180⟩)
              · refine Ev_const rfl ?_
                exact Ev_ireturn rfl rfl rfl rfl (by
                have hz := of_decide_eq_true (rt_of h183)
                rw [if_pos hz] at s180
                unfold tkSg
                rw [show sgF 2 (wAt U s) = some 7 by rw [hz]; decide, hs]
                exact ⟨rfl, rfl, s180, c180⟩)
            · refine Ev_const rfl ?_
              exact Ev_ireturn rfl rfl rfl rfl (by
              have hz := of_decide_eq_true (rt_of h160)
              rw [if_pos hz] at s157
              unfold tkSg
              rw [show sgF 2 (wAt U s) = some 6 by rw [hz]; decide, hs]
              exact ⟨rfl, rfl, s157, c157⟩)
          · refine Ev_const rfl ?_
            exact Ev_ireturn rfl rfl rfl rfl (by
            have hz := of_decide_eq_true (rt_of h80)
            rw [if_pos hz] at s77
            unfold tkSg
            rw [show sgF 2 (wAt U s) = some 1 by rw [hz]; decide, hs]
            exact ⟨rfl, rfl, s77, c77⟩)
        · refine Ev_const rfl ?_
          exact Ev_ireturn rfl rfl rfl rfl (by
          have hz := of_decide_eq_true (rt_of h51)
          rw [if_pos hz] at s48
          unfold tkSg
          rw [show sgF 2 (wAt U s) = some 3 by rw [hz]; decide, hs]
          exact ⟨rfl, rfl, s48, c48⟩)
      · refine Ev_const rfl ?_
        exact Ev_ireturn rfl rfl rfl rfl (by
        have hz := of_decide_eq_true (rt_of h30)
        rw [if_pos hz] at s27
        unfold tkSg
        rw [show sgF 2 (wAt U s) = some 2 by rw [hz]; decide, hs]
        exact ⟨rfl, rfl, s27, c27⟩)
    · refine Ev_const rfl ?_
      exact Ev_ireturn rfl rfl rfl rfl (by
      have hz := of_decide_eq_true (rt_of h9)
      rw [if_pos hz] at s6
      unfold tkSg
      rw [show sgF 2 (wAt U s) = some 0 by rw [hz]; decide, hs]
      exact ⟨rfl, rfl, s6, c6⟩)
  · refine T_of rfl ?_
    refine Ev_aload rfl rfl rfl ?_
    refine Ev_getR rfl (by first | rfl | assumption) (hρ _ _ _ rfl) ?_
    refine Ev_str rfl ?_
    refine Ev_callV rfl rfl rfl rfl rfl (same_n 400) (tk_word _ (q := 17) hρ hT (by decide) (by decide) wl_sg.1 hs H) ?_
    rintro v6 ρ6 σ6 ⟨rfl, e6, s6, c6⟩
    obtain rfl := e6.symm
    refine Ev_if_eq rfl (fun h9 => ?_) (fun h9 => ?_)
    · have z0 := of_decide_eq_false (ff_of h9)
      rw [if_neg z0] at s6
      refine Ev_aload rfl rfl rfl ?_
      refine Ev_getI rfl (by first | rfl | assumption) ?_
      refine Ev_norm (by rw [c6.1 318 _ (cTt_f (by decide))]; exact hk : _ = nI 3) ?_
      refine Ev_if_eq rfl (fun h18 => absurd h18 (by decide)) (fun h18 => ?_)
      refine Ev_aload rfl rfl rfl ?_
      refine Ev_getR rfl (by first | rfl | assumption) (hρ _ _ _ rfl) ?_
      refine Ev_str rfl ?_
      refine Ev_callV rfl rfl rfl rfl rfl (same_n 400) (tk_word _ (q := 18) hρ hT (by decide) (by decide) wl_sg.2.1 hs s6) ?_
      rintro v27 ρ27 σ27 ⟨rfl, e27, s27, c27⟩
      obtain rfl := e27.symm
      have c27 := c6.tr c27
      refine Ev_if_eq rfl (fun h30 => ?_) (fun h30 => ?_)
      · have z2 := of_decide_eq_false (ff_of h30)
        rw [if_neg z2] at s27
        refine Ev_aload rfl rfl rfl ?_
        refine Ev_getI rfl (by first | rfl | assumption) ?_
        refine Ev_norm (by rw [c27.1 318 _ (cTt_f (by decide))]; exact hk : _ = nI 3) ?_
        refine Ev_if_eq rfl (fun h39 => absurd h39 (by decide)) (fun h39 => ?_)
        refine Ev_aload rfl rfl rfl ?_
        refine Ev_getR rfl (by first | rfl | assumption) (hρ _ _ _ rfl) ?_
        refine Ev_str rfl ?_
        refine Ev_callV rfl rfl rfl rfl rfl (same_n 400) (tk_word _ (q := 19) hρ hT (by decide) (by decide) wl_sg.2.2.1 hs s27) ?_
        rintro v48 ρ48 σ48 ⟨rfl, e48, s48, c48⟩
        obtain rfl := e48.symm
        have c48 := c27.tr c48
        refine Ev_if_eq rfl (fun h51 => ?_) (fun h51 => ?_)
        · have z3 := of_decide_eq_false (ff_of h51)
          rw [if_neg z3] at s48
          refine Ev_aload rfl rfl rfl ?_
          refine Ev_getI rfl (by first | rfl | assumption) ?_
          refine Ev_norm (by rw [c48.1 318 _ (cTt_f (by decide))]; exact hk : _ = nI 3) ?_
          refine Ev_if_eq rfl (fun h60 => absurd h60 (by decide)) (fun h60 => ?_)
          refine Ev_aload rfl rfl rfl ?_
          refine Ev_getI rfl (by first | rfl | assumption) ?_
          refine Ev_norm (by rw [c48.1 318 _ (cTt_f (by decide))]; exact hk : _ = nI 3) ?_
          refine Ev_const rfl ?_
          refine Ev_icmp_eq rfl (fun h68 => absurd h68 (by decide)) (fun h68 => ?_)
          refine Ev_aload rfl rfl rfl ?_
          refine Ev_getR rfl (by first | rfl | assumption) (hρ _ _ _ rfl) ?_
          refine Ev_str rfl ?_
          refine Ev_callV rfl rfl rfl rfl rfl (same_n 400) (tk_word _ (q := 20) hρ hT (by decide) (by decide) wl_sg.2.2.2.1 hs s48) ?_
          rintro v77 ρ77 σ77 ⟨rfl, e77, s77, c77⟩
          obtain rfl := e77.symm
          have c77 := c48.tr c77
          refine Ev_if_eq rfl (fun h80 => ?_) (fun h80 => ?_)
          · have z1 := of_decide_eq_false (ff_of h80)
            rw [if_neg z1] at s77
            refine Ev_aload rfl rfl rfl ?_
            refine Ev_getI rfl (by first | rfl | assumption) ?_
            refine Ev_norm (by rw [c77.1 318 _ (cTt_f (by decide))]; exact hk : _ = nI 3) ?_
            refine Ev_if_eq rfl (fun h89 => absurd h89 (by decide)) (fun h89 => ?_)
            refine Ev_aload rfl rfl rfl ?_
            refine Ev_getI rfl (by first | rfl | assumption) ?_
            refine Ev_norm (by rw [c77.1 318 _ (cTt_f (by decide))]; exact hk : _ = nI 3) ?_
            refine Ev_const rfl ?_
            refine Ev_icmp_eq rfl (fun h97 => absurd h97 (by decide)) (fun h97 => ?_)
            refine Ev_aload rfl rfl rfl ?_
            refine Ev_getR rfl (by first | rfl | assumption) (hρ _ _ _ rfl) ?_
            refine Ev_str rfl ?_
            refine Ev_callV rfl rfl rfl rfl rfl (same_n 400) (tk_word _ (q := 21) hρ hT (by decide) (by decide) wl_sg.2.2.2.2.1 hs s77) ?_
            rintro v106 ρ106 σ106 ⟨rfl, e106, s106, c106⟩
            obtain rfl := e106.symm
            have c106 := c77.tr c106
            refine Ev_if_eq rfl (fun h109 => ?_) (fun h109 => ?_)
            · have z4 := of_decide_eq_false (ff_of h109)
              rw [if_neg z4] at s106
              refine Ev_aload rfl rfl rfl ?_
              refine Ev_getI rfl (by first | rfl | assumption) ?_
              refine Ev_norm (by rw [c106.1 318 _ (cTt_f (by decide))]; exact hk : _ = nI 3) ?_
              refine Ev_if_eq rfl (fun h118 => absurd h118 (by decide)) (fun h118 => ?_)
              refine Ev_aload rfl rfl rfl ?_
              refine Ev_getI rfl (by first | rfl | assumption) ?_
              refine Ev_norm (by rw [c106.1 318 _ (cTt_f (by decide))]; exact hk : _ = nI 3) ?_
              refine Ev_const rfl ?_
              refine Ev_icmp_eq rfl (fun h126 => absurd h126 (by decide)) (fun h126 => ?_)
              refine Ev_aload rfl rfl rfl ?_
              refine Ev_getR rfl (by first | rfl | assumption) (hρ _ _ _ rfl) ?_
              refine Ev_str rfl ?_
              refine Ev_callV rfl rfl rfl rfl rfl (same_n 400) (tk_word _ (q := 22) hρ hT (by decide) (by decide) wl_sg.2.2.2.2.2.1 hs s106) ?_
              rintro v135 ρ135 σ135 ⟨rfl, e135, s135, c135⟩
              obtain rfl := e135.symm
              have c135 := c106.tr c135
              refine Ev_if_eq rfl (fun h138 => ?_) (fun h138 => ?_)
              · have z5 := of_decide_eq_false (ff_of h138)
                rw [if_neg z5] at s135
                refine Ev_aload rfl rfl rfl ?_
                refine Ev_getI rfl (by first | rfl | assumption) ?_
                refine Ev_norm (by rw [c135.1 318 _ (cTt_f (by decide))]; exact hk : _ = nI 3) ?_
                refine Ev_const rfl ?_
                refine Ev_icmp_ne rfl (fun h148 => ?_) (fun h148 => absurd (by decide) h148)
                refine Ev_aload rfl rfl rfl ?_
                refine Ev_getI rfl (by first | rfl | assumption) ?_
                refine Ev_norm (by rw [c135.1 318 _ (cTt_f (by decide))]; exact hk : _ = nI 3) ?_
                refine Ev_const rfl ?_
                refine Ev_icmp_ne rfl (fun h171 => ?_) (fun h171 => absurd (by decide) h171)
                refine Ev_aload rfl rfl rfl ?_
                refine Ev_getI rfl (by first | rfl | assumption) ?_
                refine Ev_norm (by rw [c135.1 318 _ (cTt_f (by decide))]; exact hk : _ = nI 3) ?_
                refine Ev_const rfl ?_
                refine Ev_icmp_ne rfl (fun h194 => ?_) (fun h194 => absurd (by decide) h194)
                refine Ev_const rfl ?_
                exact Ev_ireturn rfl rfl rfl rfl (by
                have hn : sgF 3 (wAt U s) = none := by
                  unfold sgF
                  rw [if_neg z0, if_neg (fun z => z2 z.2), if_neg (fun z => z3 z.2), if_neg (fun z => z1 z.2), if_neg (fun z => z4 z.2), if_neg (fun z => z5 z.2), if_neg (fun z => absurd z.1 (by decide)), if_neg (fun z => absurd z.1 (by decide)), if_neg (fun z => absurd z.1 (by decide))]
                unfold tkSg
                rw [hn, hs]
                exact ⟨rfl, rfl, s135, c135⟩)
              · refine Ev_const rfl ?_
                exact Ev_ireturn rfl rfl rfl rfl (by
                have hz := of_decide_eq_true (rt_of h138)
                rw [if_pos hz] at s135
                unfold tkSg
                rw [show sgF 3 (wAt U s) = some 5 by rw [hz]; decide, hs]
                exact ⟨rfl, rfl, s135, c135⟩)
            · refine Ev_const rfl ?_
              exact Ev_ireturn rfl rfl rfl rfl (by
              have hz := of_decide_eq_true (rt_of h109)
              rw [if_pos hz] at s106
              unfold tkSg
              rw [show sgF 3 (wAt U s) = some 4 by rw [hz]; decide, hs]
              exact ⟨rfl, rfl, s106, c106⟩)
          · refine Ev_const rfl ?_
            exact Ev_ireturn rfl rfl rfl rfl (by
            have hz := of_decide_eq_true (rt_of h80)
            rw [if_pos hz] at s77
            unfold tkSg
            rw [show sgF 3 (wAt U s) = some 1 by rw [hz]; decide, hs]
            exact ⟨rfl, rfl, s77, c77⟩)
        · refine Ev_const rfl ?_
          exact Ev_ireturn rfl rfl rfl rfl (by
          have hz := of_decide_eq_true (rt_of h51)
          rw [if_pos hz] at s48
          unfold tkSg
          rw [show sgF 3 (wAt U s) = some 3 by rw [hz]; decide, hs]
          exact ⟨rfl, rfl, s48, c48⟩)
      · refine Ev_const rfl ?_
        exact Ev_ireturn rfl rfl rfl rfl (by
        have hz := of_decide_eq_true (rt_of h30)
        rw [if_pos hz] at s27
        unfold tkSg
        rw [show sgF 3 (wAt U s) = some 2 by rw [hz]; decide, hs]
        exact ⟨rfl, rfl, s27, c27⟩)
    · refine Ev_const rfl ?_
      exact Ev_ireturn rfl rfl rfl rfl (by
      have hz := of_decide_eq_true (rt_of h9)
      rw [if_pos hz] at s6
      unfold tkSg
      rw [show sgF 3 (wAt U s) = some 0 by rw [hz]; decide, hs]
      exact ⟨rfl, rfl, s6, c6⟩)
  · refine T_of rfl ?_
    refine Ev_aload rfl rfl rfl ?_
    refine Ev_getR rfl (by first | rfl | assumption) (hρ _ _ _ rfl) ?_
    refine Ev_str rfl ?_
    refine Ev_callV rfl rfl rfl rfl rfl (same_n 400) (tk_word _ (q := 17) hρ hT (by decide) (by decide) wl_sg.1 hs H) ?_
    rintro v6 ρ6 σ6 ⟨rfl, e6, s6, c6⟩
    obtain rfl := e6.symm
    refine Ev_if_eq rfl (fun h9 => ?_) (fun h9 => ?_)
    · have z0 := of_decide_eq_false (ff_of h9)
      rw [if_neg z0] at s6
      refine Ev_aload rfl rfl rfl ?_
      refine Ev_getI rfl (by first | rfl | assumption) ?_
      refine Ev_norm (by rw [c6.1 318 _ (cTt_f (by decide))]; exact hk : _ = nI 4) ?_
      refine Ev_if_eq rfl (fun h18 => absurd h18 (by decide)) (fun h18 => ?_)
      refine Ev_aload rfl rfl rfl ?_
      refine Ev_getR rfl (by first | rfl | assumption) (hρ _ _ _ rfl) ?_
      refine Ev_str rfl ?_
      refine Ev_callV rfl rfl rfl rfl rfl (same_n 400) (tk_word _ (q := 18) hρ hT (by decide) (by decide) wl_sg.2.1 hs s6) ?_
      rintro v27 ρ27 σ27 ⟨rfl, e27, s27, c27⟩
      obtain rfl := e27.symm
      have c27 := c6.tr c27
      refine Ev_if_eq rfl (fun h30 => ?_) (fun h30 => ?_)
      · have z2 := of_decide_eq_false (ff_of h30)
        rw [if_neg z2] at s27
        refine Ev_aload rfl rfl rfl ?_
        refine Ev_getI rfl (by first | rfl | assumption) ?_
        refine Ev_norm (by rw [c27.1 318 _ (cTt_f (by decide))]; exact hk : _ = nI 4) ?_
        refine Ev_if_eq rfl (fun h39 => absurd h39 (by decide)) (fun h39 => ?_)
        refine Ev_aload rfl rfl rfl ?_
        refine Ev_getR rfl (by first | rfl | assumption) (hρ _ _ _ rfl) ?_
        refine Ev_str rfl ?_
        refine Ev_callV rfl rfl rfl rfl rfl (same_n 400) (tk_word _ (q := 19) hρ hT (by decide) (by decide) wl_sg.2.2.1 hs s27) ?_
        rintro v48 ρ48 σ48 ⟨rfl, e48, s48, c48⟩
        obtain rfl := e48.symm
        have c48 := c27.tr c48
        refine Ev_if_eq rfl (fun h51 => ?_) (fun h51 => ?_)
        · have z3 := of_decide_eq_false (ff_of h51)
          rw [if_neg z3] at s48
          refine Ev_aload rfl rfl rfl ?_
          refine Ev_getI rfl (by first | rfl | assumption) ?_
          refine Ev_norm (by rw [c48.1 318 _ (cTt_f (by decide))]; exact hk : _ = nI 4) ?_
          refine Ev_if_eq rfl (fun h60 => absurd h60 (by decide)) (fun h60 => ?_)
          refine Ev_aload rfl rfl rfl ?_
          refine Ev_getI rfl (by first | rfl | assumption) ?_
          refine Ev_norm (by rw [c48.1 318 _ (cTt_f (by decide))]; exact hk : _ = nI 4) ?_
          refine Ev_const rfl ?_
          refine Ev_icmp_eq rfl (fun h68 => ?_) (fun h68 => absurd (by decide) h68)
          refine Ev_aload rfl rfl rfl ?_
          refine Ev_getI rfl (by first | rfl | assumption) ?_
          refine Ev_norm (by rw [c48.1 318 _ (cTt_f (by decide))]; exact hk : _ = nI 4) ?_
          refine Ev_if_eq rfl (fun h89 => absurd h89 (by decide)) (fun h89 => ?_)
          refine Ev_aload rfl rfl rfl ?_
          refine Ev_getI rfl (by first | rfl | assumption) ?_
          refine Ev_norm (by rw [c48.1 318 _ (cTt_f (by decide))]; exact hk : _ = nI 4) ?_
          refine Ev_const rfl ?_
          refine Ev_icmp_eq rfl (fun h97 => absurd h97 (by decide)) (fun h97 => ?_)
          refine Ev_aload rfl rfl rfl ?_
          refine Ev_getR rfl (by first | rfl | assumption) (hρ _ _ _ rfl) ?_
          refine Ev_str rfl ?_
          refine Ev_callV rfl rfl rfl rfl rfl (same_n 400) (tk_word _ (q := 21) hρ hT (by decide) (by decide) wl_sg.2.2.2.2.1 hs s48) ?_
          rintro v106 ρ106 σ106 ⟨rfl, e106, s106, c106⟩
          obtain rfl := e106.symm
          have c106 := c48.tr c106
          refine Ev_if_eq rfl (fun h109 => ?_) (fun h109 => ?_)
          · have z4 := of_decide_eq_false (ff_of h109)
            rw [if_neg z4] at s106
            refine Ev_aload rfl rfl rfl ?_
            refine Ev_getI rfl (by first | rfl | assumption) ?_
            refine Ev_norm (by rw [c106.1 318 _ (cTt_f (by decide))]; exact hk : _ = nI 4) ?_
            refine Ev_if_eq rfl (fun h118 => absurd h118 (by decide)) (fun h118 => ?_)
            refine Ev_aload rfl rfl rfl ?_
            refine Ev_getI rfl (by first | rfl | assumption) ?_
            refine Ev_norm (by rw [c106.1 318 _ (cTt_f (by decide))]; exact hk : _ = nI 4) ?_
            refine Ev_const rfl ?_
            refine Ev_icmp_eq rfl (fun h126 => absurd h126 (by decide)) (fun h126 => ?_)
            refine Ev_aload rfl rfl rfl ?_
            refine Ev_getR rfl (by first | rfl | assumption) (hρ _ _ _ rfl) ?_
            refine Ev_str rfl ?_
            refine Ev_callV rfl rfl rfl rfl rfl (same_n 400) (tk_word _ (q := 22) hρ hT (by decide) (by decide) wl_sg.2.2.2.2.2.1 hs s106) ?_
            rintro v135 ρ135 σ135 ⟨rfl, e135, s135, c135⟩
            obtain rfl := e135.symm
            have c135 := c106.tr c135
            refine Ev_if_eq rfl (fun h138 => ?_) (fun h138 => ?_)
            · have z5 := of_decide_eq_false (ff_of h138)
              rw [if_neg z5] at s135
              refine Ev_aload rfl rfl rfl ?_
              refine Ev_getI rfl (by first | rfl | assumption) ?_
              refine Ev_norm (by rw [c135.1 318 _ (cTt_f (by decide))]; exact hk : _ = nI 4) ?_
              refine Ev_const rfl ?_
              refine Ev_icmp_ne rfl (fun h148 => ?_) (fun h148 => absurd (by decide) h148)
              refine Ev_aload rfl rfl rfl ?_
              refine Ev_getI rfl (by first | rfl | assumption) ?_
              refine Ev_norm (by rw [c135.1 318 _ (cTt_f (by decide))]; exact hk : _ = nI 4) ?_
              refine Ev_const rfl ?_
              refine Ev_icmp_ne rfl (fun h171 => ?_) (fun h171 => absurd (by decide) h171)
              refine Ev_aload rfl rfl rfl ?_
              refine Ev_getI rfl (by first | rfl | assumption) ?_
              refine Ev_norm (by rw [c135.1 318 _ (cTt_f (by decide))]; exact hk : _ = nI 4) ?_
              refine Ev_const rfl ?_
              refine Ev_icmp_ne rfl (fun h194 => absurd h194 (by decide)) (fun h194 => ?_)
              refine Ev_aload rfl rfl rfl ?_
              refine Ev_getR rfl (by first | rfl | assumption) (hρ _ _ _ rfl) ?_
              refine Ev_str rfl ?_
              refine Ev_callV rfl rfl rfl rfl rfl (same_n 400) (tk_word _ (q := 25) hρ hT (by decide) (by decide) wl_sg.2.2.2.2.2.2.2.2 hs s135) ?_
              rintro v203 ρ203 σ203 ⟨rfl, e203, s203, c203⟩
              obtain rfl := e203.symm
              have c203 := c135.tr c203
              refine Ev_if_eq rfl (fun h206 => ?_) (fun h206 => ?_)
              · have z8 := of_decide_eq_false (ff_of h206)
                rw [if_neg z8] at s203
                refine Ev_const rfl ?_
                exact Ev_ireturn rfl rfl rfl rfl (by
                have hn : sgF 4 (wAt U s) = none := by
                  unfold sgF
                  rw [if_neg z0, if_neg (fun z => z2 z.2), if_neg (fun z => z3 z.2), if_neg (fun z => absurd z.1 (by decide)), if_neg (fun z => z4 z.2), if_neg (fun z => z5 z.2), if_neg (fun z => absurd z.1 (by decide)), if_neg (fun z => absurd z.1 (by decide)), if_neg (fun z => z8 z.2)]
                unfold tkSg
                rw [hn, hs]
                exact ⟨rfl, rfl, s203, c203⟩)
              · refine Ev_const rfl ?_
                refine Ev_goto rfl ?_
                exact Ev_ireturn rfl rfl rfl rfl (by
                have hz := of_decide_eq_true (rt_of h206)
                rw [if_pos hz] at s203
                unfold tkSg
                rw [show sgF 4 (wAt U s) = some 8 by rw [hz]; decide, hs]
                exact ⟨rfl, rfl, s203, c203⟩)
            · refine Ev_const rfl ?_
              exact Ev_ireturn rfl rfl rfl rfl (by
              have hz := of_decide_eq_true (rt_of h138)
              rw [if_pos hz] at s135
              unfold tkSg
              rw [show sgF 4 (wAt U s) = some 5 by rw [hz]; decide, hs]
              exact ⟨rfl, rfl, s135, c135⟩)
          · refine Ev_const rfl ?_
            exact Ev_ireturn rfl rfl rfl rfl (by
            have hz := of_decide_eq_true (rt_of h109)
            rw [if_pos hz] at s106
            unfold tkSg
            rw [show sgF 4 (wAt U s) = some 4 by rw [hz]; decide, hs]
            exact ⟨rfl, rfl, s106, c106⟩)
        · refine Ev_const rfl ?_
          exact Ev_ireturn rfl rfl rfl rfl (by
          have hz := of_decide_eq_true (rt_of h51)
          rw [if_pos hz] at s48
          unfold tkSg
          rw [show sgF 4 (wAt U s) = some 3 by rw [hz]; decide, hs]
          exact ⟨rfl, rfl, s48, c48⟩)
      · refine Ev_const rfl ?_
        exact Ev_ireturn rfl rfl rfl rfl (by
        have hz := of_decide_eq_true (rt_of h30)
        rw [if_pos hz] at s27
        unfold tkSg
        rw [show sgF 4 (wAt U s) = some 2 by rw [hz]; decide, hs]
        exact ⟨rfl, rfl, s27, c27⟩)
    · refine Ev_const rfl ?_
      exact Ev_ireturn rfl rfl rfl rfl (by
      have hz := of_decide_eq_true (rt_of h9)
      rw [if_pos hz] at s6
      unfold tkSg
      rw [show sgF 4 (wAt U s) = some 0 by rw [hz]; decide, hs]
      exact ⟨rfl, rfl, s6, c6⟩)
end S88m
