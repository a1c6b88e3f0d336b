/-! A formula read: the class's parts, products, sums. -/
def FoQ (O bs : Nat) (U : Tx) (k : Nat) (ρ : Rf) (σ : St) (y : Xs) : Po := fun v ρ' σ' => v = none ∧ ρ' = ρ ∧ FPr σ' U O bs k y ∧ CF (cFo O bs) σ σ'
def FoT (l : Launch) (X : Cx) (ρ : Rf) (U : Tx) (O bs k meth o K : Nat) (f : Xs → Xs) : Prop := ∀ (d : Nat) (σ : St) (x : Xs), K ≤ d → FPr σ U O bs k x → T l X d meth [.ref 318, .int (nI o)] 402 402 ρ σ (FoQ O bs U k ρ σ (f x))
/-- a level's four methods -/
def LvT (l : Launch) (X : Cx) (ρ : Rf) (U : Tx) (O bs k o K : Nat) (D : Lv) : Prop := FoT l X ρ U O bs k 36 o (K + 3) D.1 ∧ FoT l X ρ U O bs k 34 o (K + 5) D.2.1 ∧ FoT l X ρ U O bs k 38 o (K + 2) D.2.2.1 ∧ FoT l X ρ U O bs k 40 o K D.2.2.2
theorem mo_n0 {n : Nat} {s : Rdg} (h : isOk (moS n s) = true) : n ≠ 0 := by
  intro z
  subst z
  have e : moS 0 s = flA 4 0 s := if_pos rfl
  rw [e] at h
  cases s <;> cases h
theorem sgF_lt {k i : Nat} {w : List Nat} (h : sgF k w = some i) : i < 9 := by
  unfold sgF at h
  repeat' split at h
  all_goals (cases h <;> decide)
section S88n
variable {l : Launch} {X : Cx} {ρ : Rf} {U : Tx} {O bs k : Nat}
theorem FPr.add {d : Nat} {σ : St} {x : Xs} {t : Nat} (hρ : RF ρ) (hO : OkO O) (H : FPr σ U O bs k x) : T l X d 69 [.ref O, .int (nI (cc t))] 402 402 ρ σ (FoQ O bs U k ρ σ (em t x)) := by
  refine (t_add d hρ hO H.2.1).mono (fun v ρ' σ' h => ?_)
  exact ⟨h.1, h.2.1, H.or hO h.2.2.1 h.2.2.2, cOr_Fo h.2.2.2⟩
theorem FPr.addE {d : Nat} {σ : St} {x : Xs} {t : Nat} (hρ : RF ρ) (hO : OkO O) (ht : cc t = t) (H : FPr σ U O bs k x) : T l X d 69 [.ref O, .int (nI t)] 402 402 ρ σ (FoQ O bs U k ρ σ (em t x)) := by
  have := FPr.add (l := l) (X := X) (d := d) (t := t) hρ hO H
  rw [ht] at this
  exact this
theorem FPr.tx2 {σ σ' : St} {s0 s : Rdg} {out : List Nat} (hO : OkO O) (H : FPr σ U O bs k (s0, out)) (h : CTt σ' U s) (hs : CF cTt σ σ') : FPr σ' U O bs k (s, out) := H.tx hO h hs
theorem FPr.num {d v : Nat} {σ : St} {x : Xs} (hρ : RF ρ) (hO : OkO O) (hv : v ≤ 9999) (H : FPr σ U O bs k x) : T l X (d + 1) 70 [.ref O, .int (nI v)] 402 402 ρ σ (FoQ O bs U k ρ σ (em (256 * v + 32) x)) := by
  refine (t_addNumber d hρ hO hv H.2.1).mono (fun v ρ' σ' h => ?_)
  exact ⟨h.1, h.2.1, H.or hO h.2.2.1 h.2.2.2, cOr_Fo h.2.2.2⟩
theorem FPr.askE {d c : Nat} {σ : St} {x : Xs} (hρ : RF ρ) (hT : TxW U) (hO : OkO O) (hc : c < 256 ∧ ltB c = false ∧ dgB c = false) (H : FPr σ U O bs k x) : T l X (d + 7) 99 [.ref 316, .int (nI c)] 402 402 ρ σ (FoQ O bs U k ρ σ (onX (aSg U c) x)) := by
  refine (t_expS d hρ hT hc H.1).mono (fun v ρ' σ' h => ?_)
  exact ⟨h.1, h.2.1, H.tx hO h.2.2.1.t h.2.2.2, cTt_Fo h.2.2.2⟩
theorem t_sight (d : Nat) {O bs k : Nat} {σ : St} {x : Xs} (hρ : RF ρ) (hT : TxW U) (hO : OkO O) (hO1 : ρ 318 1 = some O) (hk5 : k < 5) (H : FPr σ U O bs k x) :
    T l X (d + 6) 43 [.ref 318] 402 402 ρ σ (fun v ρ' σ' => v = none ∧ ρ' = ρ ∧ FPr σ' U O bs k (match sgF k (wAt U x.1) with
      | some i => (adv (wAt U x.1).length 1 (lkS U x.1), x.2 ++ [i])
      | none => (flA 1 0 (lkS U x.1), x.2)) ∧ CF (cFo O bs) σ σ') := by
  cases hg : sgF k (wAt U x.1) with
  | none =>
    refine T_of rfl ?_
    refine Ev_aload rfl rfl rfl ?_
    refine Ev_callV rfl rfl rfl rfl rfl (same_n 402) (t_sightHere _ hρ hT hk5 H.1 H.2.2) ?_
    rintro v1 ρ1 σ1 ⟨rfl, e1, g1⟩
    obtain rfl := e1.symm
    obtain rfl := g1.symm
    refine Ev_norm (by rw [hg]; rfl : _ = (-1 : Int32)) ?_
    refine Ev_istore rfl ?_
    refine Ev_iload rfl rfl ?_
    refine Ev_const rfl ?_
    refine Ev_icmp_ne rfl (fun h7 => absurd rfl h7) (fun h7 => ?_)
    refine Ev_aload rfl rfl rfl ?_
    refine Ev_getR rfl (by first | rfl | assumption) (hρ _ _ _ rfl) ?_
    refine Ev_const rfl ?_
    refine Ev_aload rfl rfl rfl ?_
    refine Ev_getR rfl (by first | rfl | assumption) (hρ _ _ _ rfl) ?_
    refine Ev_getI rfl (by first | rfl | assumption) ?_
    refine Ev_callV rfl rfl rfl rfl rfl (same_n 402) (t_failH _ hT H.1) ?_
    rintro v22 ρ22 σ22 ⟨rfl, e22, s22, c22⟩
    obtain rfl := e22.symm
    refine Ev_goto rfl ?_
    exact Ev_return rfl rfl rfl ⟨rfl, rfl, H.tx hO s22.t c22, cTt_Fo c22⟩
  | some i =>
    have hi := sgF_lt hg
    have hci : cc i = i := by unfold cc; rw [if_neg (by omega)]
    have hne : wAt U x.1 ≠ [] := fun z => by rw [z] at hg; rw [show sgF k [] = none from sg_no (fun i hi z => (wL_ne (1 + i) (by omega)).1 z.symm)] at hg; cases hg
    refine T_of rfl ?_
    refine Ev_aload rfl rfl rfl ?_
    refine Ev_callV rfl rfl rfl rfl rfl (same_n 402) (t_sightHere _ hρ hT hk5 H.1 H.2.2) ?_
    rintro v1 ρ1 σ1 ⟨rfl, e1, g1⟩
    obtain rfl := e1.symm
    obtain rfl := g1.symm
    refine Ev_norm (by rw [hg]; rfl : _ = nI i) ?_
    refine Ev_istore rfl ?_
    refine Ev_iload rfl rfl ?_
    refine Ev_const rfl ?_
    refine Ev_icmp_ne rfl (fun h7 => ?_) (fun h7 => absurd (Decidable.not_not.mp h7) (nI_m1 (by omega)))
    refine Ev_aload rfl rfl rfl ?_
    refine Ev_getR rfl (by first | rfl | assumption) hO1 ?_
    refine Ev_iload rfl rfl ?_
    refine Ev_callV rfl rfl rfl ((OrdO_of hρ hO).1) rfl (same_n 402) (FPr.addE hρ hO hci H) ?_
    rintro v33 ρ33 σ33 ⟨rfl, e33, H33, c33⟩
    obtain rfl := e33.symm
    refine Ev_aload rfl rfl rfl ?_
    refine Ev_getR rfl (by first | rfl | assumption) (hρ _ _ _ rfl) ?_
    refine Ev_callV rfl rfl rfl rfl rfl (same_n 402) (t_nextW _ hρ hT H33.1 rfl hne) ?_
    rintro v40 ρ40 σ40 ⟨rfl, e40, s40, c40⟩
    obtain rfl := e40.symm
    exact Ev_return rfl rfl rfl ⟨rfl, rfl, H33.tx hO s40.t c40, c33.tr (cTt_Fo c40)⟩
/-- what opens, where there is room, where there is none -/
theorem mo_0 {s : Rdg} : moS 0 s = flA 4 0 s := if_pos rfl
theorem mo_n {n : Nat} {s : Rdg} (h : n ≠ 0) : moS n s = s := if_neg h
theorem t_pair {o n K t : Nat} {D : Lv} (hρ : RF ρ) (hT : TxW U) (hO : OkO O) (hO1 : ρ 318 1 = some O) (ho : o + n = 6) (hD : n ≠ 0 → LvT l X ρ U O bs k (o + 1) K D) (ht : cc t = t) {d : Nat} {σ : St} {x : Xs} (hd : K + 3 ≤ d) (hd9 : 9 ≤ d) (H : FPr σ U O bs k x) :
    T l X d 41 [.ref 318, .int (nI o), .int (nI t)] 402 402 ρ σ (FoQ O bs U k ρ σ (paX U n D t x)) := by
  obtain ⟨d, rfl⟩ : ∃ e, d = e + 9 := ⟨d - 9, by omega⟩
  have hev := H.1.hs (c := 40) hT (by decide)
  unfold paX FoQ
  by_cases hc : lkC U x.1 = some 40
  · obtain ⟨a, tc, e1, e2, e3, -⟩ := lk_some hc
    rw [if_pos hc]
    by_cases hn : n = 0
    · subst hn
      have ho : o = 6 := by omega
      subst ho
      rw [mo_0, show isOk (flA 4 0 (lkS U x.1)) = false by rw [e1]; rfl]
      refine T_of rfl ?_
      refine Ev_aload rfl rfl rfl ?_
      refine Ev_getR rfl (by first | rfl | assumption) (hρ _ _ _ rfl) ?_
      refine Ev_getI rfl (by first | rfl | assumption) ?_
      refine Ev_const rfl ?_
      refine Ev_icmp_eq rfl (fun h9 => ?_) (fun h9 => absurd (hev.mpr hc) h9)
      refine Ev_aload rfl rfl rfl ?_
      refine Ev_iload rfl rfl ?_
      refine Ev_callV rfl rfl rfl rfl rfl (same_n 402) (t_opens0 _ hρ hT H.1 e1) ?_
      rintro v32 ρ32 σ32 ⟨rfl, e32, s32, c32⟩
      obtain rfl := e32.symm
      refine Ev_if_eq rfl (fun h35 => ?_) (fun h35 => absurd rfl h35)
      exact Ev_return rfl rfl rfl ⟨rfl, rfl, H.tx hO s32.t c32, cTt_Fo c32⟩
    · rw [mo_n hn, show isOk (lkS U x.1) = true by rw [e1]; rfl, tSg_i]
      have hop := t_opens1 (l := l) (X := X) (o := o) (d + 2) hρ (by omega) (t_nextS _ hρ hT H.1 hc (by decide))
      rw [← tSg_y hc] at hop
      refine T_of rfl ?_
      refine Ev_aload rfl rfl rfl ?_
      refine Ev_getR rfl (by first | rfl | assumption) (hρ _ _ _ rfl) ?_
      refine Ev_getI rfl (by first | rfl | assumption) ?_
      refine Ev_const rfl ?_
      refine Ev_icmp_eq rfl (fun h9 => ?_) (fun h9 => absurd (hev.mpr hc) h9)
      refine Ev_aload rfl rfl rfl ?_
      refine Ev_iload rfl rfl ?_
      refine Ev_callV rfl rfl rfl rfl rfl (same_n 402) hop ?_
      rintro v32 ρ32 σ32 ⟨rfl, e32, s32, c32⟩
      obtain rfl := e32.symm
      have H32 := H.tx hO s32.t c32
      refine Ev_if_eq rfl (fun h35 => absurd h35 (by decide)) (fun h35 => ?_)
      refine Ev_aload rfl rfl rfl ?_
      refine Ev_iload rfl rfl ?_
      refine Ev_const rfl ?_
      refine Ev_iadd rfl ?_
      refine Ev_norm (nI_1 o) ?_
      refine Ev_callV rfl rfl rfl rfl rfl (same_n 402) ((hD hn).2.2.1 _ _ _ (by omega) H32) ?_
      rintro v42 ρ42 σ42 ⟨rfl, e42, H42, c42⟩
      obtain rfl := e42.symm
      refine Ev_aload rfl rfl rfl ?_
      refine Ev_getR rfl (by first | rfl | assumption) (hρ _ _ _ rfl) ?_
      refine Ev_const rfl ?_
      refine Ev_callV rfl rfl rfl rfl rfl (same_n 402) (FPr.askE (c := 44) hρ hT hO (by decide) H42) ?_
      rintro v51 ρ51 σ51 ⟨rfl, e51, H51, c51⟩
      obtain rfl := e51.symm
      refine Ev_aload rfl rfl rfl ?_
      refine Ev_iload rfl rfl ?_
      refine Ev_const rfl ?_
      refine Ev_iadd rfl ?_
      refine Ev_norm (nI_1 o) ?_
      refine Ev_callV rfl rfl rfl rfl rfl (same_n 402) ((hD hn).2.2.1 _ _ _ (by omega) H51) ?_
      rintro v58 ρ58 σ58 ⟨rfl, e58, H58, c58⟩
      obtain rfl := e58.symm
      refine Ev_aload rfl rfl rfl ?_
      refine Ev_getR rfl (by first | rfl | assumption) (hρ _ _ _ rfl) ?_
      refine Ev_const rfl ?_
      refine Ev_callV rfl rfl rfl rfl rfl (same_n 402) (FPr.askE (c := 41) hρ hT hO (by decide) H58) ?_
      rintro v67 ρ67 σ67 ⟨rfl, e67, H67, c67⟩
      obtain rfl := e67.symm
      refine Ev_aload rfl rfl rfl ?_
      refine Ev_getR rfl (by first | rfl | assumption) hO1 ?_
      refine Ev_iload rfl rfl ?_
      refine Ev_callV rfl rfl rfl ((OrdO_of hρ hO).1) rfl (same_n 402) (FPr.addE hρ hO ht H67) ?_
      rintro v75 ρ75 σ75 ⟨rfl, e75, H75, c75⟩
      obtain rfl := e75.symm
      exact Ev_return rfl rfl rfl ⟨rfl, rfl, H75, (((((cTt_Fo c32).tr c42).tr c51).tr c58).tr c67).tr c75⟩
  · rw [if_neg hc]
    refine T_of rfl ?_
    refine Ev_aload rfl rfl rfl ?_
    refine Ev_getR rfl (by first | rfl | assumption) (hρ _ _ _ rfl) ?_
    refine Ev_getI rfl (by first | rfl | assumption) ?_
    refine Ev_const rfl ?_
    refine Ev_icmp_eq rfl (fun h9 => absurd (hev.mp h9) hc) (fun h9 => ?_)
    refine Ev_aload rfl rfl rfl ?_
    refine Ev_getR rfl (by first | rfl | assumption) (hρ _ _ _ rfl) ?_
    refine Ev_const rfl ?_
    refine Ev_aload rfl rfl rfl ?_
    refine Ev_getR rfl (by first | rfl | assumption) (hρ _ _ _ rfl) ?_
    refine Ev_getI rfl (by first | rfl | assumption) ?_
    refine Ev_callV rfl rfl rfl rfl rfl (same_n 402) (t_failH _ hT H.1) ?_
    rintro v24 ρ24 σ24 ⟨rfl, e24, s24, c24⟩
    obtain rfl := e24.symm
    refine Ev_goto rfl ?_
    exact Ev_return rfl rfl rfl ⟨rfl, rfl, H.tx hO s24.t c24, cTt_Fo c24⟩
theorem t_ofIdea {o n K t : Nat} {D : Lv} {w : List Nat} (hρ : RF ρ) (hT : TxW U) (hO : OkO O) (hO1 : ρ 318 1 = some O) (hk5 : k < 5) (ho : o + n = 6) (hD : n ≠ 0 → LvT l X ρ U O bs k (o + 1) K D) (ht : cc t = t) {d : Nat} {σ : St} {x : Xs} (hw : wAt U x.1 = w) (hwn : w ≠ []) (hd : K + 3 ≤ d) (hd9 : 9 ≤ d) (H : FPr σ U O bs k x) :
    T l X d 42 [.ref 318, .int (nI o), .int (nI t)] 402 402 ρ σ (FoQ O bs U k ρ σ (if k = 4 then ofX U n D w t (lkS U x.1, x.2) else (flA 1 0 (lkS U x.1), x.2))) := by
  obtain ⟨d, rfl⟩ : ∃ e, d = e + 9 := ⟨d - 9, by omega⟩
  obtain ⟨a, tc, e1, e2, e3⟩ := wAt_c (by rw [hw]; exact hwn)
  unfold FoQ
  by_cases hk4 : k = 4
  · rw [if_pos hk4]
    unfold ofX
    by_cases hn : n = 0
    · subst hn
      have ho : o = 6 := by omega
      subst ho
      rw [mo_0, show isOk (flA 4 0 (lkS U x.1, x.2).1) = false by show isOk (flA 4 0 (lkS U x.1)) = false; rw [e1]; rfl]
      refine T_of rfl ?_
      refine Ev_aload rfl rfl rfl ?_
      refine Ev_getI rfl (by first | rfl | assumption) ?_
      refine Ev_norm (by rw [H.2.2, hk4] : _ = nI 4) ?_
      refine Ev_const rfl ?_
      refine Ev_icmp_eq rfl (fun h5 => ?_) (fun h5 => absurd rfl h5)
      refine Ev_aload rfl rfl rfl ?_
      refine Ev_iload rfl rfl ?_
      refine Ev_callV rfl rfl rfl rfl rfl (same_n 402) (t_opens0 _ hρ hT H.1 e1) ?_
      rintro v28 ρ28 σ28 ⟨rfl, e28, s28, c28⟩
      obtain rfl := e28.symm
      have H28 := H.tx hO s28.t c28
      refine Ev_if_eq rfl (fun h31 => ?_) (fun h31 => absurd rfl h31)
      exact Ev_return rfl rfl rfl ⟨rfl, rfl, H28, cTt_Fo c28⟩
    · rw [mo_n hn, show isOk (lkS U x.1, x.2).1 = true by show isOk (lkS U x.1) = true; rw [e1]; rfl, tWd_i]
      have hop := t_opens1 (l := l) (X := X) (o := o) (d + 2) hρ (by omega) (t_nextW _ hρ hT H.1 hw hwn)
      rw [← tWd_y hw] at hop
      refine T_of rfl ?_
      refine Ev_aload rfl rfl rfl ?_
      refine Ev_getI rfl (by first | rfl | assumption) ?_
      refine Ev_norm (by rw [H.2.2, hk4] : _ = nI 4) ?_
      refine Ev_const rfl ?_
      refine Ev_icmp_eq rfl (fun h5 => ?_) (fun h5 => absurd rfl h5)
      refine Ev_aload rfl rfl rfl ?_
      refine Ev_iload rfl rfl ?_
      refine Ev_callV rfl rfl rfl rfl rfl (same_n 402) hop ?_
      rintro v28 ρ28 σ28 ⟨rfl, e28, s28, c28⟩
      obtain rfl := e28.symm
      have H28 := H.tx hO s28.t c28
      refine Ev_if_eq rfl (fun h31 => absurd h31 (by decide)) (fun h31 => ?_)
      refine Ev_aload rfl rfl rfl ?_
      refine Ev_iload rfl rfl ?_
      refine Ev_const rfl ?_
      refine Ev_iadd rfl ?_
      refine Ev_norm (nI_1 o) ?_
      refine Ev_callV rfl rfl rfl rfl rfl (same_n 402) ((hD hn).2.2.2 _ _ _ (by omega) H28) ?_
      rintro v38 ρ38 σ38 ⟨rfl, e38, H38, c38⟩
      obtain rfl := e38.symm
      refine Ev_aload rfl rfl rfl ?_
      refine Ev_getR rfl (by first | rfl | assumption) hO1 ?_
      refine Ev_iload rfl rfl ?_
      refine Ev_callV rfl rfl rfl ((OrdO_of hρ hO).1) rfl (same_n 402) (FPr.addE hρ hO ht H38) ?_
      rintro v46 ρ46 σ46 ⟨rfl, e46, H46, c46⟩
      obtain rfl := e46.symm
      exact Ev_return rfl rfl rfl ⟨rfl, rfl, H46, ((cTt_Fo c28).tr c38).tr c46⟩
  · rw [if_neg hk4]
    have hk4' : ¬ nI k = 4 := fun z => hk4 ((nI_eq (b := 4) (by omega) (by decide)).mp z)
    refine T_of rfl ?_
    refine Ev_aload rfl rfl rfl ?_
    refine Ev_getI rfl (by first | rfl | assumption) ?_
    refine Ev_norm H.2.2 ?_
    refine Ev_const rfl ?_
    refine Ev_icmp_eq rfl (fun h5 => absurd h5 hk4') (fun h5 => ?_)
    refine Ev_aload rfl rfl rfl ?_
    refine Ev_getR rfl (by first | rfl | assumption) (hρ _ _ _ rfl) ?_
    refine Ev_const rfl ?_
    refine Ev_aload rfl rfl rfl ?_
    refine Ev_getR rfl (by first | rfl | assumption) (hρ _ _ _ rfl) ?_
    refine Ev_getI rfl (by first | rfl | assumption) ?_
    refine Ev_callV rfl rfl rfl rfl rfl (same_n 402) (t_failH _ hT H.1) ?_
    rintro v20 ρ20 σ20 ⟨rfl, e20, s20, c20⟩
    obtain rfl := e20.symm
    refine Ev_goto rfl ?_
    exact Ev_return rfl rfl rfl ⟨rfl, rfl, H.tx hO s20.t c20, cTt_Fo c20⟩
theorem sg_kn : ∀ k, k < 5 → sgF k wKnows = none ∧ sgF k wReady = none := by decide
theorem t_part {o n K : Nat} {D : Lv} (hρ : RF ρ) (hT : TxW U) (hO : OkO O) (hO1 : ρ 318 1 = some O) (hk5 : k < 5) (ho : o + n = 6) (hK : 6 ≤ K) (hD : n ≠ 0 → LvT l X ρ U O bs k (o + 1) K D) : FoT l X ρ U O bs k 40 o (K + 4) (parX U k n D) := by
  intro d σ x hd H
  obtain ⟨d, rfl⟩ : ∃ e, d = e + 10 := ⟨d - 10, by omega⟩
  have hs := H.1.hs (c := 40) hT (by decide)
  have hd := H.1.hd hT
  have word : ∀ {i : Nat}, i < 33 → (σ.1 316 2).toInt = ((259 + i : Nat) : Int) → wAt U x.1 = wL.getD i [] := fun hi h => (H.1.hw hT hi).mp (toI_n (by omega) h)
  refine T_of rfl ?_
  refine Ev_aload rfl rfl rfl ?_
  refine Ev_getR rfl (by first | rfl | assumption) (hρ _ _ _ rfl) ?_
  refine Ev_getI rfl (by first | rfl | assumption) ?_
  refine Ev_look rfl rfl (swP_c (fun h7_0 => ?_) (fun g7_0 => swP_c (fun h7_1 => ?_) (fun g7_1 => swP_c (fun h7_2 => ?_) (fun g7_2 => swP_c (fun h7_3 => ?_) (fun g7_3 => swP_c (fun h7_4 => ?_) (fun g7_4 => swP_c (fun h7_5 => ?_) (fun g7_5 => swP_n ?_)))))))
  · have g2 := hs.mp (toI_n (n := 40) (by decide) h7_0)
    have g1 : dgI (lkV (lkC U x.1)) = false := by rw [g2]; decide
    obtain ⟨a, tc, e1, e2, e3, -⟩ := lk_some g2
    unfold parX FoQ
    rw [g1, if_pos g2]
    by_cases hn : n = 0
    · subst hn
      have ho : o = 6 := by omega
      subst ho
      rw [mo_0, show isOk (flA 4 0 (lkS U x.1)) = false by rw [e1]; rfl]
      refine Ev_aload rfl rfl rfl ?_
      refine Ev_iload rfl rfl ?_
      refine Ev_callV rfl rfl rfl rfl rfl (same_n 402) (t_opens0 _ hρ hT H.1 e1) ?_
      rintro v86 ρ86 σ86 ⟨rfl, e86, s86, c86⟩
      obtain rfl := e86.symm
      refine Ev_if_eq rfl (fun h89 => ?_) (fun h89 => absurd rfl h89)
      exact Ev_return rfl rfl rfl ⟨rfl, rfl, H.tx hO s86.t c86, cTt_Fo c86⟩
    · rw [mo_n hn, show isOk (lkS U x.1) = true by rw [e1]; rfl, tSg_i]
      have hop := t_opens1 (l := l) (X := X) (o := o) (d + 3) hρ (by omega) (t_nextS _ hρ hT H.1 g2 (by decide))
      rw [← tSg_y g2] at hop
      refine Ev_aload rfl rfl rfl ?_
      refine Ev_iload rfl rfl ?_
      refine Ev_callV rfl rfl rfl rfl rfl (same_n 402) hop ?_
      rintro v86 ρ86 σ86 ⟨rfl, e86, s86, c86⟩
      obtain rfl := e86.symm
      have H86 := H.tx hO s86.t c86
      refine Ev_if_eq rfl (fun h89 => absurd h89 (by decide)) (fun h89 => ?_)
      refine Ev_aload rfl rfl rfl ?_
      refine Ev_iload rfl rfl ?_
      refine Ev_const rfl ?_
      refine Ev_iadd rfl ?_
      refine Ev_norm (nI_1 o) ?_
      refine Ev_callV rfl rfl rfl rfl rfl (same_n 402) ((hD hn).2.2.1 _ _ _ (by omega) H86) ?_
      rintro v96 ρ96 σ96 ⟨rfl, e96, H96, c96⟩
      obtain rfl := e96.symm
      refine Ev_aload rfl rfl rfl ?_
      refine Ev_getR rfl (by first | rfl | assumption) (hρ _ _ _ rfl) ?_
      refine Ev_const rfl ?_
      refine Ev_callV rfl rfl rfl rfl rfl (same_n 402) (FPr.askE (c := 41) hρ hT hO (by decide) H96) ?_
      rintro v105 ρ105 σ105 ⟨rfl, e105, H105, c105⟩
      obtain rfl := e105.symm
      refine Ev_goto rfl ?_
      exact Ev_return rfl rfl rfl ⟨rfl, rfl, H105, ((cTt_Fo c86).tr c96).tr c105⟩
  · have g1 := hd.mp (toI_n (n := 257) (by decide) h7_1)
    unfold parX FoQ
    rw [g1, vNu_i, aNu_i]
    refine Ev_aload rfl rfl rfl ?_
    refine Ev_getR rfl (by first | rfl | assumption) hO1 ?_
    refine Ev_aload rfl rfl rfl ?_
    refine Ev_getR rfl (by first | rfl | assumption) (hρ _ _ _ rfl) ?_
    refine Ev_const rfl ?_
    refine Ev_callV rfl rfl rfl rfl rfl (same_n 402) (t_askNumber _ (most := 9999) hρ hT (by decide) H.1) ?_
    rintro v75 ρ75 σ75 ⟨rfl, e75, s75, c75⟩
    obtain rfl := e75.symm
    refine Ev_callV rfl rfl rfl ((OrdO_of hρ hO).1) rfl (same_n 402) (FPr.num hρ hO (vNu_le U 9999 _) (H.tx hO s75.t c75)) ?_
    rintro v78 ρ78 σ78 ⟨rfl, e78, H78, c78⟩
    obtain rfl := e78.symm
    refine Ev_goto rfl ?_
    exact Ev_return rfl rfl rfl ⟨rfl, rfl, H78, (cTt_Fo c75).tr c78⟩
  · have g5 : wAt U x.1 = wKnows := (word (i := 19) (by decide) h7_2).trans wl_knows
    have hne : wAt U x.1 ≠ [] := by rw [g5]; decide
    obtain ⟨g1, g2⟩ := wAt_nd hT hne
    have e : parX U k n D x = if k = 4 then ofX U n D wKnows 34 (lkS U x.1, x.2) else (flA 1 0 (lkS U x.1), x.2) := by
      unfold parX
      rw [g1, if_neg (g2 40 (by decide)), g5, if_neg (by decide), if_neg (by decide)]
      by_cases hk4 : k = 4
      · rw [if_pos ⟨hk4, rfl⟩, if_pos hk4]; rfl
      · rw [if_neg (fun z => hk4 z.1), if_neg (fun z => hk4 z.1), if_neg hk4, (sg_kn k hk5).1]; rfl
    rw [e]
    unfold FoQ
    refine Ev_aload rfl rfl rfl ?_
    refine Ev_iload rfl rfl ?_
    refine Ev_const rfl ?_
    refine Ev_callV rfl rfl rfl rfl rfl (same_n 402) (t_ofIdea (t := 34) hρ hT hO hO1 hk5 ho hD rfl g5 (by decide) (by omega) (by omega) H) ?_
    rintro v149 ρ149 σ149 ⟨rfl, e149, H149, c149⟩
    obtain rfl := e149.symm
    refine Ev_goto rfl ?_
    exact Ev_return rfl rfl rfl ⟨rfl, rfl, H149, c149⟩
  · have g5 : wAt U x.1 = wReady := (word (i := 20) (by decide) h7_3).trans wl_ready
    have hne : wAt U x.1 ≠ [] := by rw [g5]; decide
    obtain ⟨g1, g2⟩ := wAt_nd hT hne
    have e : parX U k n D x = if k = 4 then ofX U n D wReady 35 (lkS U x.1, x.2) else (flA 1 0 (lkS U x.1), x.2) := by
      unfold parX
      rw [g1, if_neg (g2 40 (by decide)), g5, if_neg (by decide), if_neg (by decide), if_neg (fun z => absurd z.2 (by decide))]
      by_cases hk4 : k = 4
      · rw [if_pos ⟨hk4, rfl⟩, if_pos hk4]; rfl
      · rw [if_neg (fun z => hk4 z.1), if_neg hk4, (sg_kn k hk5).2]; rfl
    rw [e]
    unfold FoQ
    refine Ev_aload rfl rfl rfl ?_
    refine Ev_iload rfl rfl ?_
    refine Ev_const rfl ?_
    refine Ev_callV rfl rfl rfl rfl rfl (same_n 402) (t_ofIdea (t := 35) hρ hT hO hO1 hk5 ho hD rfl g5 (by decide) (by omega) (by omega) H) ?_
    rintro v159 ρ159 σ159 ⟨rfl, e159, H159, c159⟩
    obtain rfl := e159.symm
    refine Ev_goto rfl ?_
    exact Ev_return rfl rfl rfl ⟨rfl, rfl, H159, c159⟩
  · have g5 : wAt U x.1 = wMin := (word (i := 25) (by decide) h7_4).trans wl_min
    have hne : wAt U x.1 ≠ [] := by rw [g5]; decide
    obtain ⟨g1, g2⟩ := wAt_nd hT hne
    unfold parX FoQ
    rw [g1, if_neg (g2 40 (by decide)), if_pos g5, tWd_i]
    have hop := t_nextW (l := l) (X := X) (d + 4) hρ hT H.1 g5 (by decide)
    rw [← tWd_y g5] at hop
    refine Ev_aload rfl rfl rfl ?_
    refine Ev_getR rfl (by first | rfl | assumption) (hρ _ _ _ rfl) ?_
    refine Ev_callV rfl rfl rfl rfl rfl (same_n 402) hop ?_
    rintro v115 ρ115 σ115 ⟨rfl, e115, s115, c115⟩
    obtain rfl := e115.symm
    refine Ev_aload rfl rfl rfl ?_
    refine Ev_iload rfl rfl ?_
    refine Ev_const rfl ?_
    refine Ev_callV rfl rfl rfl rfl rfl (same_n 402) (t_pair (t := 45) hρ hT hO hO1 ho hD rfl (by omega) (by omega) (H.tx hO s115.t c115)) ?_
    rintro v122 ρ122 σ122 ⟨rfl, e122, H122, c122⟩
    obtain rfl := e122.symm
    refine Ev_goto rfl ?_
    exact Ev_return rfl rfl rfl ⟨rfl, rfl, H122, (cTt_Fo c115).tr c122⟩
  · have g5 : wAt U x.1 = wMax := (word (i := 26) (by decide) h7_5).trans wl_max
    have hne : wAt U x.1 ≠ [] := by rw [g5]; decide
    obtain ⟨g1, g2⟩ := wAt_nd hT hne
    unfold parX FoQ
    rw [g1, if_neg (g2 40 (by decide)), if_neg (by rw [g5]; decide), if_pos g5, tWd_i]
    have hop := t_nextW (l := l) (X := X) (d + 4) hρ hT H.1 g5 (by decide)
    rw [← tWd_y g5] at hop
    refine Ev_aload rfl rfl rfl ?_
    refine Ev_getR rfl (by first | rfl | assumption) (hρ _ _ _ rfl) ?_
    refine Ev_callV rfl rfl rfl rfl rfl (same_n 402) hop ?_
    rintro v132 ρ132 σ132 ⟨rfl, e132, s132, c132⟩
    obtain rfl := e132.symm
    refine Ev_aload rfl rfl rfl ?_
    refine Ev_iload rfl rfl ?_
    refine Ev_const rfl ?_
    refine Ev_callV rfl rfl rfl rfl rfl (same_n 402) (t_pair (t := 46) hρ hT hO hO1 ho hD rfl (by omega) (by omega) (H.tx hO s132.t c132)) ?_
    rintro v139 ρ139 σ139 ⟨rfl, e139, H139, c139⟩
    obtain rfl := e139.symm
    refine Ev_goto rfl ?_
    exact Ev_return rfl rfl rfl ⟨rfl, rfl, H139, (cTt_Fo c132).tr c139⟩
  · have nw : ∀ {i : Nat}, i < 33 → ¬ (σ.1 316 2).toInt = ((259 + i : Nat) : Int) → ¬ wAt U x.1 = wL.getD i [] := fun hi h z => h (by rw [(H.1.hw hT hi).mpr z, nI_toInt (by omega)])
    have g1 : dgI (lkV (lkC U x.1)) = false := by
      cases hq : dgI (lkV (lkC U x.1)) with
      | false => rfl
      | true => exact absurd (show (σ.1 316 2).toInt = 257 by rw [hd.mpr hq]; rfl) g7_1
    have g2 : ¬ lkC U x.1 = some 40 := fun z => g7_0 (by rw [hs.mpr z]; rfl)
    have g3 : ¬ wAt U x.1 = wMin := fun z => nw (i := 25) (by decide) g7_4 (z.trans wl_min.symm)
    have g4 : ¬ wAt U x.1 = wMax := fun z => nw (i := 26) (by decide) g7_5 (z.trans wl_max.symm)
    have g5 : ¬ wAt U x.1 = wKnows := fun z => nw (i := 19) (by decide) g7_2 (z.trans wl_knows.symm)
    have g6 : ¬ wAt U x.1 = wReady := fun z => nw (i := 20) (by decide) g7_3 (z.trans wl_ready.symm)
    unfold parX FoQ
    rw [g1, if_neg g2, if_neg g3, if_neg g4, if_neg (fun z => g5 z.2), if_neg (fun z => g6 z.2)]
    refine Ev_aload rfl rfl rfl ?_
    refine Ev_callV rfl rfl rfl rfl rfl (same_n 402) (t_sight _ hρ hT hO hO1 hk5 H) ?_
    rintro v166 ρ166 σ166 ⟨rfl, e166, H166, c166⟩
    obtain rfl := e166.symm
    exact Ev_return rfl rfl rfl ⟨rfl, rfl, H166, c166⟩
end S88n
