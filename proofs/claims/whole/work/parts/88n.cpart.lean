/-! A formula read: the class's parts, products, sums. -/
def FoQ (O bs : Nat) (U : Tx) (k : Nat) (ρ : Rf) (σ : St) (y : Xs) : Po := fun v ρ' σ' => v = none ∧ ρ' = ρ ∧ FPr σ' U O bs k y ∧ CF (cFo O bs) σ σ'
def FoT (l : Launch) (X : Cx) (ρ : Rf) (U : Tx) (O bs k meth o K : Nat) (f : Xs → Xs) : Prop := ∀ (d : Nat) (σ : St) (x : Xs), K ≤ d → FPr σ U O bs k x → T l X d meth [.ref 318, .int (nI o)] 400 400 ρ σ (FoQ O bs U k ρ σ (f x))
/-- a level's four methods -/
def LvT (l : Launch) (X : Cx) (ρ : Rf) (U : Tx) (O bs k o K : Nat) (D : Lv) : Prop := FoT l X ρ U O bs k 39 o (K + 3) D.1 ∧ FoT l X ρ U O bs k 37 o (K + 5) D.2.1 ∧ FoT l X ρ U O bs k 42 o (K + 2) D.2.2.1 ∧ FoT l X ρ U O bs k 44 o K D.2.2.2
theorem mo_n0 {n : Nat} {s : Rdg} (h : isOk (moS n s) = true) : n ≠ 0 := by
  intro z
  subst z
  have e : moS 0 s = flA 4 0 s := if_pos rfl
  rw [e] at h
  cases s <;> cases h
theorem sgF_lt {k i : Nat} {w : List Nat} (h : sgF k w = some i) : i < 9 := by
  unfold sgF at h
  repeat' split at h
  all_goals (cases h <;> decide)
section S88n
variable {l : Launch} {X : Cx} {ρ : Rf} {U : Tx} {O bs k : Nat}
theorem FPr.add {d : Nat} {σ : St} {x : Xs} {t : Nat} (hρ : RF ρ) (hO : OkO O) (H : FPr σ U O bs k x) : T l X d 69 [.ref O, .int (nI (cc t))] 400 400 ρ σ (FoQ O bs U k ρ σ (em t x)) := by
  refine (t_add d hρ hO H.2.1).mono (fun v ρ' σ' h => ?_)
  exact ⟨h.1, h.2.1, H.or hO h.2.2.1 h.2.2.2, cOr_Fo h.2.2.2⟩
theorem FPr.addE {d : Nat} {σ : St} {x : Xs} {t : Nat} (hρ : RF ρ) (hO : OkO O) (ht : cc t = t) (H : FPr σ U O bs k x) : T l X d 69 [.ref O, .int (nI t)] 400 400 ρ σ (FoQ O bs U k ρ σ (em t x)) := by
  have := FPr.add (l := l) (X := X) (d := d) (t := t) hρ hO H
  rw [ht] at this
  exact this
theorem FPr.tx2 {σ σ' : St} {s0 s : Rdg} {out : List Nat} (hO : OkO O) (H : FPr σ U O bs k (s0, out)) (h : CTt σ' U s) (hs : CF cTt σ σ') : FPr σ' U O bs k (s, out) := H.tx hO h hs
theorem FPr.num {d v : Nat} {σ : St} {x : Xs} (hρ : RF ρ) (hO : OkO O) (hv : v ≤ 9999) (H : FPr σ U O bs k x) : T l X (d + 1) 70 [.ref O, .int (nI v)] 400 400 ρ σ (FoQ O bs U k ρ σ (em (256 * v + 32) x)) := by
  refine (t_addNumber d hρ hO hv H.2.1).mono (fun v ρ' σ' h => ?_)
  exact ⟨h.1, h.2.1, H.or hO h.2.2.1 h.2.2.2, cOr_Fo h.2.2.2⟩
theorem FPr.ask {d c : Nat} {σ : St} {x : Xs} (hρ : RF ρ) (hT : TxW U) (hO : OkO O) (hc : c < 256) (H : FPr σ U O bs k x) : T l X (d + 3) 100 [.ref 316, .int (nI c)] 400 400 ρ σ (FoQ O bs U k ρ σ (onX (aSg U c) x)) := by
  refine (t_askSign d hρ hT hc H.1).mono (fun v ρ' σ' h => ?_)
  exact ⟨h.1, h.2.1, H.tx hO h.2.2.1 h.2.2.2, cTt_Fo h.2.2.2⟩
theorem t_pair {o n K t : Nat} {D : Lv} (hρ : RF ρ) (hT : TxW U) (hO : OkO O) (hO1 : ρ 318 1 = some O) (ho : o + n = 6) (hD : n ≠ 0 → LvT l X ρ U O bs k (o + 1) K D) (ht : cc t = t) {d : Nat} {σ : St} {x : Xs} (hd : K + 3 ≤ d) (hd9 : 9 ≤ d) (H : FPr σ U O bs k x) :
    T l X d 45 [.ref 318, .int (nI o), .int (nI t)] 400 400 ρ σ (FoQ O bs U k ρ σ (paX U n D t x)) := by
  obtain ⟨d, rfl⟩ : ∃ e, d = e + 9 := ⟨d - 9, by omega⟩
  have hev := lkV_eq (lkC_256 (s := x.1) hT) (show 40 < 256 by decide)
  refine T_of rfl ?_
  refine Ev_aload rfl rfl rfl ?_
  refine Ev_getR rfl (by first | rfl | assumption) (hρ _ _ _ rfl) ?_
  refine Ev_callV rfl rfl rfl rfl rfl (same_n 400) (t_look _ hρ hT H.1) ?_
  rintro v4 ρ4 σ4 ⟨rfl, e4, s4, c4⟩
  obtain rfl := e4.symm
  have H4 := H.tx hO s4 c4
  refine Ev_const rfl ?_
  refine Ev_icmp_eq rfl (fun h9 => ?_) (fun h9 => ?_)
  · have hc := hev.mp h9
    refine Ev_aload rfl rfl rfl ?_
    refine Ev_iload rfl rfl ?_
    refine Ev_callV rfl rfl rfl rfl rfl (same_n 400) (t_mayOpen _ hρ ho s4) ?_
    rintro v32 ρ32 σ32 ⟨rfl, e32, s32, c32⟩
    obtain rfl := e32.symm
    have H32 := H4.tx hO s32 c32
    refine Ev_if_eq rfl (fun h35 => ?_) (fun h35 => ?_)
    · exact Ev_return rfl rfl rfl (by
      unfold paX FoQ
      rw [if_pos hc, ff_of h35]
      exact ⟨rfl, rfl, H32, cTt_Fo (c4.tr c32)⟩)
    · refine Ev_aload rfl rfl rfl ?_
      refine Ev_getR rfl (by first | rfl | assumption) (hρ _ _ _ rfl) ?_
      refine Ev_const rfl ?_
      refine Ev_callV rfl rfl rfl rfl rfl (same_n 400) (t_takeSign _ (c := 40) hρ hT (by decide) s32) ?_
      rintro v44 ρ44 σ44 ⟨rfl, e44, s44, c44⟩
      obtain rfl := e44.symm
      have H44 := H32.tx hO s44 c44
      have hok := rt_of h35
      have hn := mo_n0 hok
      refine Ev_pop rfl (fun _ q => nomatch q) ?_
      refine Ev_aload rfl rfl rfl ?_
      refine Ev_iload rfl rfl ?_
      refine Ev_const rfl ?_
      refine Ev_iadd rfl ?_
      refine Ev_norm (nI_1 o) ?_
      refine Ev_callV rfl rfl rfl rfl rfl (same_n 400) ((hD hn).2.2.1 _ _ _ (by omega) H44) ?_
      rintro v52 ρ52 σ52 ⟨rfl, e52, H52, c52⟩
      obtain rfl := e52.symm
      refine Ev_aload rfl rfl rfl ?_
      refine Ev_getR rfl (by first | rfl | assumption) (hρ _ _ _ rfl) ?_
      refine Ev_const rfl ?_
      refine Ev_callV rfl rfl rfl rfl rfl (same_n 400) (FPr.ask (c := 44) hρ hT hO (by decide) H52) ?_
      rintro v61 ρ61 σ61 ⟨rfl, e61, H61, c61⟩
      obtain rfl := e61.symm
      refine Ev_aload rfl rfl rfl ?_
      refine Ev_iload rfl rfl ?_
      refine Ev_const rfl ?_
      refine Ev_iadd rfl ?_
      refine Ev_norm (nI_1 o) ?_
      refine Ev_callV rfl rfl rfl rfl rfl (same_n 400) ((hD hn).2.2.1 _ _ _ (by omega) H61) ?_
      rintro v68 ρ68 σ68 ⟨rfl, e68, H68, c68⟩
      obtain rfl := e68.symm
      refine Ev_aload rfl rfl rfl ?_
      refine Ev_getR rfl (by first | rfl | assumption) (hρ _ _ _ rfl) ?_
      refine Ev_const rfl ?_
      refine Ev_callV rfl rfl rfl rfl rfl (same_n 400) (FPr.ask (c := 41) hρ hT hO (by decide) H68) ?_
      rintro v77 ρ77 σ77 ⟨rfl, e77, H77, c77⟩
      obtain rfl := e77.symm
      refine Ev_aload rfl rfl rfl ?_
      refine Ev_getR rfl (by first | rfl | assumption) hO1 ?_
      refine Ev_iload rfl rfl ?_
      refine Ev_callV rfl rfl rfl ((OrdO_of hρ hO).1) rfl (same_n 400) (FPr.addE hρ hO ht H77) ?_
      rintro v85 ρ85 σ85 ⟨rfl, e85, H85, c85⟩
      obtain rfl := e85.symm
      exact Ev_return rfl rfl rfl (by
      unfold paX FoQ
      rw [if_pos hc, hok]
      exact ⟨rfl, rfl, H85, (((((cTt_Fo ((c4.tr c32).tr c44)).tr c52).tr c61).tr c68).tr c77).tr c85⟩)
  · refine Ev_aload rfl rfl rfl ?_
    refine Ev_getR rfl (by first | rfl | assumption) (hρ _ _ _ rfl) ?_
    refine Ev_const rfl ?_
    refine Ev_aload rfl rfl rfl ?_
    refine Ev_getR rfl (by first | rfl | assumption) (hρ _ _ _ rfl) ?_
    refine Ev_getI rfl (by first | rfl | assumption) ?_
    refine Ev_callV rfl rfl rfl rfl rfl (same_n 400) (t_fail _ (w := 1) s4 (by decide) (atV s4)) ?_
    rintro v24 ρ24 σ24 ⟨rfl, e24, s24, c24⟩
    obtain rfl := e24.symm
    refine Ev_goto rfl ?_
    exact Ev_return rfl rfl rfl (by
    have hc : ¬ lkC U x.1 = some 40 := fun z => h9 (hev.mpr z)
    unfold paX FoQ
    rw [if_neg hc]
    exact ⟨rfl, rfl, H4.tx2 hO (by rw [flA_P]; exact s24) c24, cTt_Fo (c4.tr c24)⟩)
theorem t_ofIdea {o n K t q : Nat} {D : Lv} {w : List Nat} (hρ : RF ρ) (hT : TxW U) (hO : OkO O) (hO1 : ρ 318 1 = some O) (ho : o + n = 6) (hD : n ≠ 0 → LvT l X ρ U O bs k (o + 1) K D) (ht : cc t = t) (hq : q < nStr) (hq1 : q ≠ 1) (hw : wlS q = w) {d : Nat} {σ : St} {x : Xs} (hd : K + 1 ≤ d) (hd9 : 9 ≤ d) (H : FPr σ U O bs k x) :
    T l X d 46 [.ref 318, .int (nI o), .retAddr (2 * q), .int (nI t)] 400 400 ρ σ (FoQ O bs U k ρ σ (ofX U n D w t x)) := by
  obtain ⟨d, rfl⟩ : ∃ e, d = e + 9 := ⟨d - 9, by omega⟩
  refine T_of rfl ?_
  refine Ev_aload rfl rfl rfl ?_
  refine Ev_iload rfl rfl ?_
  refine Ev_callV rfl rfl rfl rfl rfl (same_n 400) (t_mayOpen _ hρ ho H.1) ?_
  rintro v2 ρ2 σ2 ⟨rfl, e2, s2, c2⟩
  obtain rfl := e2.symm
  have H2 := H.tx hO s2 c2
  refine Ev_if_eq rfl (fun h5 => ?_) (fun h5 => ?_)
  · exact Ev_return rfl rfl rfl (by
    unfold ofX FoQ
    rw [ff_of h5]
    exact ⟨rfl, rfl, H2, cTt_Fo c2⟩)
  · refine Ev_aload rfl rfl rfl ?_
    refine Ev_getR rfl (by first | rfl | assumption) (hρ _ _ _ rfl) ?_
    refine Ev_aload rfl rfl rfl ?_
    refine Ev_callV rfl rfl rfl rfl rfl (same_n 400) (t_takeWord _ hρ hT hq (wl_l hq hq1) (wl_ok q hq hq1).2 s2) ?_
    rintro v13 ρ13 σ13 ⟨rfl, e13, s13, c13⟩
    obtain rfl := e13.symm
    rw [hw] at s13
    have H13 := H2.tx hO s13 c13
    have hok := rt_of h5
    have hn := mo_n0 hok
    refine Ev_pop rfl (fun _ q => nomatch q) ?_
    refine Ev_aload rfl rfl rfl ?_
    refine Ev_iload rfl rfl ?_
    refine Ev_const rfl ?_
    refine Ev_iadd rfl ?_
    refine Ev_norm (nI_1 o) ?_
    refine Ev_callV rfl rfl rfl rfl rfl (same_n 400) ((hD hn).2.2.2 _ _ _ (by omega) H13) ?_
    rintro v21 ρ21 σ21 ⟨rfl, e21, H21, c21⟩
    obtain rfl := e21.symm
    refine Ev_aload rfl rfl rfl ?_
    refine Ev_getR rfl (by first | rfl | assumption) hO1 ?_
    refine Ev_iload rfl rfl ?_
    refine Ev_callV rfl rfl rfl ((OrdO_of hρ hO).1) rfl (same_n 400) (FPr.addE hρ hO ht H21) ?_
    rintro v29 ρ29 σ29 ⟨rfl, e29, H29, c29⟩
    obtain rfl := e29.symm
    exact Ev_return rfl rfl rfl (by
    unfold ofX FoQ
    rw [hok]
    exact ⟨rfl, rfl, H29, ((cTt_Fo (c2.tr c13)).tr c21).tr c29⟩)
theorem t_part {o n K : Nat} {D : Lv} (hρ : RF ρ) (hT : TxW U) (hO : OkO O) (hO1 : ρ 318 1 = some O) (hk5 : k < 5) (ho : o + n = 6) (hK : 6 ≤ K) (hD : n ≠ 0 → LvT l X ρ U O bs k (o + 1) K D) : FoT l X ρ U O bs k 44 o (K + 4) (parX U k n D) := by
  intro d σ x hd H
  obtain ⟨d, rfl⟩ : ∃ e, d = e + 10 := ⟨d - 10, by omega⟩
  have hev := lkV_eq (lkC_256 (s := x.1) hT) (show 40 < 256 by decide)
  -- a look, once and for all
  have lk1 : ∀ σ1, CTt σ1 U (lkS U x.1) → CF cTt σ σ1 → FPr σ1 U O bs k (lkS U x.1, x.2) := fun σ1 s1 c1 => H.tx hO s1 c1
  -- behind the words: a sight or none
  have sight : ∀ σ1, CTt σ1 U (lkS U x.1) → CF cTt σ σ1 → dgI (lkV (lkC U x.1)) = false → ¬ lkC U x.1 = some 40 → ¬ wAt U x.1 = wMin → ¬ wAt U x.1 = wMax → ¬ (k = 4 ∧ wAt U x.1 = wKnows) → ¬ (k = 4 ∧ wAt U x.1 = wReady) →
      Ev l X (d + 10) 44 187 [.ref 318, .int (nI o), .float 0] [] 400 400 400 ρ σ1 (FoQ O bs U k ρ σ (parX U k n D x)) := by
    intro σ1 s1 c1 g1 g2 g3 g4 g5 g6
    have H1 := lk1 σ1 s1 c1
    unfold parX FoQ
    rw [g1, if_neg g2, if_neg g3, if_neg g4, if_neg g5, if_neg g6]
    refine Ev_aload rfl rfl rfl ?_
    refine Ev_callV rfl rfl rfl rfl rfl (same_n 400) (t_takenSight _ hρ hT hk5 (lkS_i U x.1) s1 H1.2.2) ?_
    rintro v188 ρ188 σ188 ⟨rfl, e188, s188, c188⟩
    obtain rfl := e188.symm
    rw [wAt_i]
    have H188 := H1.tx hO s188 c188
    unfold tkSg at H188 s188
    rw [wAt_i, lkS_i] at H188 s188
    refine Ev_istore rfl ?_
    cases hg : sgF k (wAt U x.1) with
    | none =>
      rw [hg] at H188 s188
      refine Ev_iload rfl rfl ?_
      refine Ev_const rfl ?_
      refine Ev_icmp_ne rfl (fun h194 => absurd rfl h194) (fun h194 => ?_)
      refine Ev_aload rfl rfl rfl ?_
      refine Ev_getR rfl (by first | rfl | assumption) (hρ _ _ _ rfl) ?_
      refine Ev_const rfl ?_
      refine Ev_aload rfl rfl rfl ?_
      refine Ev_getR rfl (by first | rfl | assumption) (hρ _ _ _ rfl) ?_
      refine Ev_getI rfl (by first | rfl | assumption) ?_
      refine Ev_callV rfl rfl rfl rfl rfl (same_n 400) (t_fail _ (w := 1) s188 (by decide) (atV s188)) ?_
      rintro v209 ρ209 σ209 ⟨rfl, e209, s209, c209⟩
      obtain rfl := e209.symm
      refine Ev_goto rfl ?_
      exact Ev_return rfl rfl rfl ⟨rfl, rfl, H188.tx2 hO (by rw [flA_P]; exact s209) c209, cTt_Fo ((c1.tr c188).tr c209)⟩
    | some i =>
      have hi := sgF_lt hg
      have hci : cc i = i := by unfold cc; rw [if_neg (by omega)]
      rw [hg] at H188 s188
      refine Ev_iload rfl rfl ?_
      refine Ev_const rfl ?_
      refine Ev_icmp_ne rfl (fun h194 => ?_) (fun h194 => absurd (nI_m1 (n := i) (by omega)) h194)
      refine Ev_aload rfl rfl rfl ?_
      refine Ev_getR rfl (by first | rfl | assumption) hO1 ?_
      refine Ev_iload rfl rfl ?_
      refine Ev_callV rfl rfl rfl ((OrdO_of hρ hO).1) rfl (same_n 400) (FPr.addE hρ hO hci H188) ?_
      rintro v220 ρ220 σ220 ⟨rfl, e220, H220, c220⟩
      obtain rfl := e220.symm
      exact Ev_return rfl rfl rfl ⟨rfl, rfl, H220, (cTt_Fo (c1.tr c188)).tr c220⟩
  -- min, max tried
  have words : ∀ σ1, CTt σ1 U (lkS U x.1) → CF cTt σ σ1 → dgI (lkV (lkC U x.1)) = false → ¬ lkC U x.1 = some 40 → Ev l X (d + 10) 44 79 [.ref 318, .int (nI o), .float 0] [] 400 400 400 ρ σ1 (FoQ O bs U k ρ σ (parX U k n D x)) := by
    intro σ1 s1 c1 g1 g2
    have H1 := lk1 σ1 s1 c1
    refine Ev_aload rfl rfl rfl ?_
    refine Ev_getR rfl (by first | rfl | assumption) (hρ _ _ _ rfl) ?_
    refine Ev_str rfl ?_
    refine Ev_callV rfl rfl rfl rfl rfl (same_n 400) (t_takeWord _ (q := 13) hρ hT (by decide) (wl_l (by decide) (by decide)) (wl_ok 13 (by decide) (by decide)).2 s1) ?_
    rintro v85 ρ85 σ85 ⟨rfl, e85, s85, c85⟩
    refine Ev_norm (by rw [wl_min, wAt_i] : _ = bI (decide (wAt U x.1 = wMin))) ?_
    obtain rfl := e85.symm
    rw [wl_min] at s85
    refine Ev_if_eq rfl (fun h88 => ?_) (fun h88 => ?_)
    · have g3 := of_decide_eq_false (ff_of h88)
      rw [tWd_i, tWd_n g3] at s85
      have H85 := H1.tx hO s85 c85
      refine Ev_aload rfl rfl rfl ?_
      refine Ev_getR rfl (by first | rfl | assumption) (hρ _ _ _ rfl) ?_
      refine Ev_str rfl ?_
      refine Ev_callV rfl rfl rfl rfl rfl (same_n 400) (t_takeWord _ (q := 14) hρ hT (by decide) (wl_l (by decide) (by decide)) (wl_ok 14 (by decide) (by decide)).2 s85) ?_
      rintro v107 ρ107 σ107 ⟨rfl, e107, s107, c107⟩
      refine Ev_norm (by rw [wl_max, wAt_i] : _ = bI (decide (wAt U x.1 = wMax))) ?_
      obtain rfl := e107.symm
      rw [wl_max] at s107
      refine Ev_if_eq rfl (fun h110 => ?_) (fun h110 => ?_)
      · have g4 := of_decide_eq_false (ff_of h110)
        rw [tWd_i, tWd_n g4] at s107
        have H107 := H85.tx hO s107 c107
        have ca := (c1.tr c85).tr c107
        by_cases hk4 : k = 4
        · refine Ev_aload rfl rfl rfl ?_
          refine Ev_getI rfl (by first | rfl | assumption) ?_
          refine Ev_norm (by rw [H107.2.2, hk4] : _ = nI 4) ?_
          refine Ev_const rfl ?_
          refine Ev_icmp_ne rfl (fun h128 => absurd rfl h128) (fun h128 => ?_)
          refine Ev_aload rfl rfl rfl ?_
          refine Ev_getR rfl (by first | rfl | assumption) (hρ _ _ _ rfl) ?_
          refine Ev_str rfl ?_
          refine Ev_callV rfl rfl rfl rfl rfl (same_n 400) (t_seesWord _ (q := 15) hρ hT (by decide) (wl_l (by decide) (by decide)) (wl_ok 15 (by decide) (by decide)).2 s107) ?_
          rintro v137 ρ137 σ137 ⟨rfl, e137, s137, c137⟩
          refine Ev_norm (by rw [wl_knows, wAt_i] : _ = bI (decide (wAt U x.1 = wKnows))) ?_
          obtain rfl := e137.symm
          rw [lkS_i] at s137
          have H137 := H107.tx hO s137 c137
          refine Ev_if_eq rfl (fun h140 => ?_) (fun h140 => ?_)
          · have g5 := of_decide_eq_false (ff_of h140)
            refine Ev_aload rfl rfl rfl ?_
            refine Ev_getI rfl (by first | rfl | assumption) ?_
            refine Ev_norm (by rw [H137.2.2, hk4] : _ = nI 4) ?_
            refine Ev_const rfl ?_
            refine Ev_icmp_ne rfl (fun h160 => absurd rfl h160) (fun h160 => ?_)
            refine Ev_aload rfl rfl rfl ?_
            refine Ev_getR rfl (by first | rfl | assumption) (hρ _ _ _ rfl) ?_
            refine Ev_str rfl ?_
            refine Ev_callV rfl rfl rfl rfl rfl (same_n 400) (t_seesWord _ (q := 16) hρ hT (by decide) (wl_l (by decide) (by decide)) (wl_ok 16 (by decide) (by decide)).2 s137) ?_
            rintro v169 ρ169 σ169 ⟨rfl, e169, s169, c169⟩
            refine Ev_norm (by rw [wl_ready, wAt_i] : _ = bI (decide (wAt U x.1 = wReady))) ?_
            obtain rfl := e169.symm
            rw [lkS_i] at s169
            have H169 := H137.tx hO s169 c169
            refine Ev_if_eq rfl (fun h172 => ?_) (fun h172 => ?_)
            · have g6 := of_decide_eq_false (ff_of h172)
              exact sight σ169 s169 ((ca.tr c137).tr c169) g1 g2 g3 g4 (fun z => g5 z.2) (fun z => g6 z.2)
            · have g6 := of_decide_eq_true (rt_of h172)
              unfold parX
              rw [g1, if_neg g2, if_neg g3, if_neg g4, if_neg (fun z => g5 z.2), if_pos ⟨hk4, g6⟩]
              refine Ev_aload rfl rfl rfl ?_
              refine Ev_iload rfl rfl ?_
              refine Ev_str rfl ?_
              refine Ev_const rfl ?_
              refine Ev_callV rfl rfl rfl rfl rfl (same_n 400) (t_ofIdea (t := 35) (q := 16) hρ hT hO hO1 ho hD rfl (by decide) (by decide) wl_ready (by omega) (by omega) H169) ?_
              rintro v181 ρ181 σ181 ⟨rfl, e181, H181, c181⟩
              obtain rfl := e181.symm
              refine Ev_goto rfl ?_
              exact Ev_return rfl rfl rfl ⟨rfl, rfl, H181, (cTt_Fo ((ca.tr c137).tr c169)).tr c181⟩
          · have g5 := of_decide_eq_true (rt_of h140)
            unfold parX
            rw [g1, if_neg g2, if_neg g3, if_neg g4, if_pos ⟨hk4, g5⟩]
            refine Ev_aload rfl rfl rfl ?_
            refine Ev_iload rfl rfl ?_
            refine Ev_str rfl ?_
            refine Ev_const rfl ?_
            refine Ev_callV rfl rfl rfl rfl rfl (same_n 400) (t_ofIdea (t := 34) (q := 15) hρ hT hO hO1 ho hD rfl (by decide) (by decide) wl_knows (by omega) (by omega) H137) ?_
            rintro v149 ρ149 σ149 ⟨rfl, e149, H149, c149⟩
            obtain rfl := e149.symm
            refine Ev_goto rfl ?_
            exact Ev_return rfl rfl rfl ⟨rfl, rfl, H149, (cTt_Fo (ca.tr c137)).tr c149⟩
        · have hk4' : ¬ nI k = 4 := fun z => hk4 ((nI_eq (b := 4) (by omega) (by decide)).mp z)
          refine Ev_aload rfl rfl rfl ?_
          refine Ev_getI rfl (by first | rfl | assumption) ?_
          refine Ev_norm H107.2.2 ?_
          refine Ev_const rfl ?_
          refine Ev_icmp_ne rfl (fun h128 => ?_) (fun h128 => absurd hk4' h128)
          refine Ev_aload rfl rfl rfl ?_
          refine Ev_getI rfl (by first | rfl | assumption) ?_
          refine Ev_norm H107.2.2 ?_
          refine Ev_const rfl ?_
          refine Ev_icmp_ne rfl (fun h160 => ?_) (fun h160 => absurd hk4' h160)
          exact sight σ107 s107 ca g1 g2 g3 g4 (fun z => hk4 z.1) (fun z => hk4 z.1)
      · have g4 := of_decide_eq_true (rt_of h110)
        have H107 := H85.tx hO s107 c107
        unfold parX
        rw [g1, if_neg g2, if_neg g3, if_pos g4]
        refine Ev_aload rfl rfl rfl ?_
        refine Ev_iload rfl rfl ?_
        refine Ev_const rfl ?_
        refine Ev_callV rfl rfl rfl rfl rfl (same_n 400) (t_pair (t := 46) hρ hT hO hO1 ho hD rfl (by omega) (by omega) H107) ?_
        rintro v117 ρ117 σ117 ⟨rfl, e117, H117, c117⟩
        obtain rfl := e117.symm
        refine Ev_goto rfl ?_
        exact Ev_return rfl rfl rfl ⟨rfl, rfl, H117, (cTt_Fo ((c1.tr c85).tr c107)).tr c117⟩
    · have g3 := of_decide_eq_true (rt_of h88)
      have H85 := H1.tx hO s85 c85
      unfold parX
      rw [g1, if_neg g2, if_pos g3]
      refine Ev_aload rfl rfl rfl ?_
      refine Ev_iload rfl rfl ?_
      refine Ev_const rfl ?_
      refine Ev_callV rfl rfl rfl rfl rfl (same_n 400) (t_pair (t := 45) hρ hT hO hO1 ho hD rfl (by omega) (by omega) H85) ?_
      rintro v95 ρ95 σ95 ⟨rfl, e95, H95, c95⟩
      obtain rfl := e95.symm
      refine Ev_goto rfl ?_
      exact Ev_return rfl rfl rfl ⟨rfl, rfl, H95, (cTt_Fo (c1.tr c85)).tr c95⟩
  refine T_of rfl ?_
  refine Ev_aload rfl rfl rfl ?_
  refine Ev_getR rfl (by first | rfl | assumption) (hρ _ _ _ rfl) ?_
  refine Ev_callV rfl rfl rfl rfl rfl (same_n 400) (t_seesNumber _ hρ hT H.1) ?_
  rintro v4 ρ4 σ4 ⟨rfl, e4, s4, c4⟩
  obtain rfl := e4.symm
  have H4 := lk1 σ4 s4 c4
  refine Ev_if_eq rfl (fun h7 => ?_) (fun h7 => ?_)
  · have g1 := ff_of h7
    refine Ev_aload rfl rfl rfl ?_
    refine Ev_getR rfl (by first | rfl | assumption) (hρ _ _ _ rfl) ?_
    refine Ev_callV rfl rfl rfl rfl rfl (same_n 400) (t_look _ hρ hT s4) ?_
    rintro v34 ρ34 σ34 ⟨rfl, e34, s34, c34⟩
    refine Ev_norm (by rw [lkC_i] : _ = lkV (lkC U x.1)) ?_
    obtain rfl := e34.symm
    rw [lkS_i] at s34
    have H34 := H4.tx hO s34 c34
    refine Ev_const rfl ?_
    refine Ev_icmp_ne rfl (fun h39 => ?_) (fun h39 => ?_)
    · exact words σ34 s34 (c4.tr c34) g1 (fun z => h39 (hev.mpr z))
    · have g2 := hev.mp (Decidable.not_not.mp h39)
      unfold parX FoQ
      rw [g1, if_pos g2]
      refine Ev_aload rfl rfl rfl ?_
      refine Ev_iload rfl rfl ?_
      refine Ev_callV rfl rfl rfl rfl rfl (same_n 400) (t_mayOpen _ hρ ho s34) ?_
      rintro v44 ρ44 σ44 ⟨rfl, e44, s44, c44⟩
      obtain rfl := e44.symm
      have H44 := H34.tx hO s44 c44
      refine Ev_if_eq rfl (fun h47 => ?_) (fun h47 => ?_)
      · exact Ev_return rfl rfl rfl (by
        rw [ff_of h47]
        exact ⟨rfl, rfl, H44, cTt_Fo ((c4.tr c34).tr c44)⟩)
      · refine Ev_aload rfl rfl rfl ?_
        refine Ev_getR rfl (by first | rfl | assumption) (hρ _ _ _ rfl) ?_
        refine Ev_const rfl ?_
        refine Ev_callV rfl rfl rfl rfl rfl (same_n 400) (t_takeSign _ (c := 40) hρ hT (by decide) s44) ?_
        rintro v56 ρ56 σ56 ⟨rfl, e56, s56, c56⟩
        obtain rfl := e56.symm
        have H56 := H44.tx hO s56 c56
        have hok := rt_of h47
        refine Ev_pop rfl (fun _ q => nomatch q) ?_
        refine Ev_aload rfl rfl rfl ?_
        refine Ev_iload rfl rfl ?_
        refine Ev_const rfl ?_
        refine Ev_iadd rfl ?_
        refine Ev_norm (nI_1 o) ?_
        refine Ev_callV rfl rfl rfl rfl rfl (same_n 400) ((hD (mo_n0 hok)).2.2.1 _ _ _ (by omega) H56) ?_
        rintro v64 ρ64 σ64 ⟨rfl, e64, H64, c64⟩
        obtain rfl := e64.symm
        refine Ev_aload rfl rfl rfl ?_
        refine Ev_getR rfl (by first | rfl | assumption) (hρ _ _ _ rfl) ?_
        refine Ev_const rfl ?_
        refine Ev_callV rfl rfl rfl rfl rfl (same_n 400) (FPr.ask (c := 41) hρ hT hO (by decide) H64) ?_
        rintro v73 ρ73 σ73 ⟨rfl, e73, H73, c73⟩
        obtain rfl := e73.symm
        refine Ev_goto rfl ?_
        exact Ev_return rfl rfl rfl (by
        rw [hok]
        exact ⟨rfl, rfl, H73, ((cTt_Fo (((c4.tr c34).tr c44).tr c56)).tr c64).tr c73⟩)
  · have g1 := rt_of h7
    unfold parX FoQ
    rw [g1]
    refine Ev_aload rfl rfl rfl ?_
    refine Ev_getR rfl (by first | rfl | assumption) hO1 ?_
    refine Ev_aload rfl rfl rfl ?_
    refine Ev_getR rfl (by first | rfl | assumption) (hρ _ _ _ rfl) ?_
    refine Ev_const rfl ?_
    refine Ev_callV rfl rfl rfl rfl rfl (same_n 400) (t_askNumber _ (most := 9999) hρ hT (by decide) s4) ?_
    rintro v21 ρ21 σ21 ⟨rfl, e21, s21, c21⟩
    obtain rfl := e21.symm
    refine Ev_callV rfl rfl rfl ((OrdO_of hρ hO).1) rfl (same_n 400) (FPr.num hρ hO (vNu_le U 9999 _) (H4.tx hO s21 c21)) ?_
    rintro v24 ρ24 σ24 ⟨rfl, e24, H24, c24⟩
    obtain rfl := e24.symm
    refine Ev_goto rfl ?_
    exact Ev_return rfl rfl rfl ⟨rfl, rfl, H24, (cTt_Fo (c4.tr c21)).tr c24⟩
end S88n
