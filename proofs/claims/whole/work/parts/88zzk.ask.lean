/-! A question read: what it asks for; the class. -/
/-- which of the words it begins with -/
def akN (w : List Nat) : Nat := if w = kw 32 then 0 else if w = kw 33 then 1 else if w = kw 34 then 2 else if w = kw 35 then 3 else if w = kw 36 then 4 else 5
def akS (U : Tx) (s : Rdg) : Rdg := if akN (wAt U s) < 5 then tWd U (kw (32 + akN (wAt U s))) s else aWd U (kw 37) s
def akF (U : Tx) (k : Nat) (s : Rdg) : Xs := if k ≤ 2 then (lvl U 4 6).2.1 (s, []) else (lvl U 4 6).2.2.1 (s, [])
/-- nothing comes behind it -/
def akE (U : Tx) (s : Rdg) : Rdg := if lkC U s = none then lkS U s else flA 1 0 (lkS U s)
theorem akN_le (w : List Nat) : akN w ≤ 5 := by
  unfold akN
  repeat' split
  all_goals decide
theorem akN_0 {w : List Nat}  (h : w = kw 32) : akN w = 0 := by unfold akN; rw [if_pos h]
theorem akN_1 {w : List Nat} (h0 : ¬ w = kw 32) (h : w = kw 33) : akN w = 1 := by unfold akN; rw [if_neg h0, if_pos h]
theorem akN_2 {w : List Nat} (h0 : ¬ w = kw 32) (h1 : ¬ w = kw 33) (h : w = kw 34) : akN w = 2 := by unfold akN; rw [if_neg h0, if_neg h1, if_pos h]
theorem akN_3 {w : List Nat} (h0 : ¬ w = kw 32) (h1 : ¬ w = kw 33) (h2 : ¬ w = kw 34) (h : w = kw 35) : akN w = 3 := by unfold akN; rw [if_neg h0, if_neg h1, if_neg h2, if_pos h]
theorem akN_4 {w : List Nat} (h0 : ¬ w = kw 32) (h1 : ¬ w = kw 33) (h2 : ¬ w = kw 34) (h3 : ¬ w = kw 35) (h : w = kw 36) : akN w = 4 := by unfold akN; rw [if_neg h0, if_neg h1, if_neg h2, if_neg h3, if_pos h]
theorem akN_5 {w : List Nat} (h0 : ¬ w = kw 32) (h1 : ¬ w = kw 33) (h2 : ¬ w = kw 34) (h3 : ¬ w = kw 35) (h4 : ¬ w = kw 36)  : akN w = 5 := by unfold akN; rw [if_neg h0, if_neg h1, if_neg h2, if_neg h3, if_neg h4]
theorem akS_y {U : Tx} {s : Rdg} {j : Nat} (h : akN (wAt U s) = j) (hj : j < 5) : akS U s = tWd U (kw (32 + j)) s := by
  unfold akS; rw [h, if_pos hj]
theorem akS_n {U : Tx} {s : Rdg} (h : akN (wAt U s) = 5) : akS U s = aWd U (kw 37) s := by
  unfold akS; rw [h, if_neg (by decide)]
theorem aWd_i (U : Tx) (w : List Nat) (s : Rdg) : aWd U w (lkS U s) = aWd U w s := by unfold aWd; rw [lkS_i, wAt_i]
def cAk (k j : Nat) : Bool := cTt k j || (Nat.beq k 318 && Nat.beq j 2) || Nat.beq k 319 || Nat.beq k 320
theorem cAk_f {k j : Nat} (h : cAk k j = false) : cTt k j = false ∧ (Nat.beq k 318 && Nat.beq j 2) = false ∧ Nat.beq k 319 = false ∧ Nat.beq k 320 = false := by
  unfold cAk at h
  simp only [Bool.or_eq_false_iff] at h
  exact ⟨h.1.1.1, h.1.1.2, h.1.2, h.2⟩
theorem cTt_k {σ σ' : St} (h : CF cTt σ σ') : CF cAk σ σ' := h.wk (fun k j z => (cAk_f z).1)
theorem cFo_k {σ σ' : St} (h : CF (fun a b => cFo 319 0 a b || (Nat.beq a 318 && Nat.beq b 2)) σ σ') : CF cAk σ σ' := h.wk (fun k j z => by
  obtain ⟨h1, h2, h3, h4⟩ := cAk_f z
  show (cFo 319 0 k j || (Nat.beq k 318 && Nat.beq j 2)) = false
  unfold cFo cOr
  rw [h1, h2, h3, h4]; rfl)
section S88zzk
variable {l : Launch} {X : Cx} {ρ : Rf} {U : Tx}
theorem t_takenWord (d : Nat) {σ : St} {s : Rdg} (hρ : RF ρ) (hT : TxW U) (H : CTt σ U s) :
    T l X (d + 8) 91 [.ref 317] 400 400 ρ σ (fun v ρ' σ' => v = some (.int (nI (akN (wAt U s)))) ∧ ρ' = ρ ∧ CTt σ' U (akS U s) ∧ CF cTt σ σ') := by
  refine T_of rfl ?_
  refine Ev_aload rfl rfl rfl ?_
  refine Ev_getR rfl (by first | rfl | assumption) (hρ _ _ _ rfl) ?_
  refine Ev_str rfl ?_
  refine Ev_callV rfl rfl rfl rfl rfl (same_n 400) (t_takeWord _ (q := 32) hρ hT (by decide) (wl_l (by decide) (by decide)) (wl_ok 32 (by decide) (by decide)).2 H) ?_
  rintro v6 ρ6 σ6 ⟨rfl, e6, s6, c6⟩
  refine Ev_norm (by rw [kw_wl 32 (by decide)] : _ = bI (decide (wAt U s = kw 32))) ?_
  obtain rfl := e6.symm
  rw [kw_wl 32 (by decide)] at s6
  refine Ev_if_eq rfl (fun h9 => ?_) (fun h9 => ?_)
  · have g0 : ¬ wAt U s = kw 32 := of_decide_eq_false (ff_of h9)
    rw [tWd_n g0] at s6
    refine Ev_aload rfl rfl rfl ?_
    refine Ev_getR rfl (by first | rfl | assumption) (hρ _ _ _ rfl) ?_
    refine Ev_str rfl ?_
    refine Ev_callV rfl rfl rfl rfl rfl (same_n 400) (t_takeWord _ (q := 33) hρ hT (by decide) (wl_l (by decide) (by decide)) (wl_ok 33 (by decide) (by decide)).2 s6) ?_
    rintro v20 ρ20 σ20 ⟨rfl, e20, s20, c20⟩
    refine Ev_norm (by rw [kw_wl 33 (by decide), wAt_i] : _ = bI (decide (wAt U s = kw 33))) ?_
    obtain rfl := e20.symm
    rw [kw_wl 33 (by decide), tWd_i] at s20
    refine Ev_if_eq rfl (fun h23 => ?_) (fun h23 => ?_)
    · have g1 : ¬ wAt U s = kw 33 := of_decide_eq_false (ff_of h23)
      rw [tWd_n g1] at s20
      refine Ev_aload rfl rfl rfl ?_
      refine Ev_getR rfl (by first | rfl | assumption) (hρ _ _ _ rfl) ?_
      refine Ev_str rfl ?_
      refine Ev_callV rfl rfl rfl rfl rfl (same_n 400) (t_takeWord _ (q := 34) hρ hT (by decide) (wl_l (by decide) (by decide)) (wl_ok 34 (by decide) (by decide)).2 s20) ?_
      rintro v34 ρ34 σ34 ⟨rfl, e34, s34, c34⟩
      refine Ev_norm (by rw [kw_wl 34 (by decide), wAt_i] : _ = bI (decide (wAt U s = kw 34))) ?_
      obtain rfl := e34.symm
      rw [kw_wl 34 (by decide), tWd_i] at s34
      refine Ev_if_eq rfl (fun h37 => ?_) (fun h37 => ?_)
      · have g2 : ¬ wAt U s = kw 34 := of_decide_eq_false (ff_of h37)
        rw [tWd_n g2] at s34
        refine Ev_aload rfl rfl rfl ?_
        refine Ev_getR rfl (by first | rfl | assumption) (hρ _ _ _ rfl) ?_
        refine Ev_str rfl ?_
        refine Ev_callV rfl rfl rfl rfl rfl (same_n 400) (t_takeWord _ (q := 35) hρ hT (by decide) (wl_l (by decide) (by decide)) (wl_ok 35 (by decide) (by decide)).2 s34) ?_
        rintro v48 ρ48 σ48 ⟨rfl, e48, s48, c48⟩
        refine Ev_norm (by rw [kw_wl 35 (by decide), wAt_i] : _ = bI (decide (wAt U s = kw 35))) ?_
        obtain rfl := e48.symm
        rw [kw_wl 35 (by decide), tWd_i] at s48
        refine Ev_if_eq rfl (fun h51 => ?_) (fun h51 => ?_)
        · have g3 : ¬ wAt U s = kw 35 := of_decide_eq_false (ff_of h51)
          rw [tWd_n g3] at s48
          refine Ev_aload rfl rfl rfl ?_
          refine Ev_getR rfl (by first | rfl | assumption) (hρ _ _ _ rfl) ?_
          refine Ev_str rfl ?_
          refine Ev_callV rfl rfl rfl rfl rfl (same_n 400) (t_takeWord _ (q := 36) hρ hT (by decide) (wl_l (by decide) (by decide)) (wl_ok 36 (by decide) (by decide)).2 s48) ?_
          rintro v62 ρ62 σ62 ⟨rfl, e62, s62, c62⟩
          refine Ev_norm (by rw [kw_wl 36 (by decide), wAt_i] : _ = bI (decide (wAt U s = kw 36))) ?_
          obtain rfl := e62.symm
          rw [kw_wl 36 (by decide), tWd_i] at s62
          refine Ev_if_eq rfl (fun h65 => ?_) (fun h65 => ?_)
          · have g4 : ¬ wAt U s = kw 36 := of_decide_eq_false (ff_of h65)
            rw [tWd_n g4] at s62
            refine Ev_aload rfl rfl rfl ?_
            refine Ev_getR rfl (by first | rfl | assumption) (hρ _ _ _ rfl) ?_
            refine Ev_str rfl ?_
            refine Ev_callV rfl rfl rfl rfl rfl (same_n 400) (t_askWord _ (q := 37) hρ hT (by decide) (wl_l (by decide) (by decide)) (wl_ok 37 (by decide) (by decide)).2 s62) ?_
            rintro v76 ρ76 σ76 ⟨rfl, e76, s76, c76⟩
            obtain rfl := e76.symm
            rw [kw_wl 37 (by decide), aWd_i] at s76
            refine Ev_const rfl ?_
            exact Ev_ireturn rfl rfl rfl rfl ⟨by rw [akN_5 g0 g1 g2 g3 g4]; rfl, rfl, by rw [akS_n (akN_5 g0 g1 g2 g3 g4)]; exact s76, (((((c6).tr c20).tr c34).tr c48).tr c62).tr c76⟩
          · have g4 : wAt U s = kw 36 := of_decide_eq_true (rt_of h65)
            refine Ev_const rfl ?_
            exact Ev_ireturn rfl rfl rfl rfl ⟨by rw [akN_4 g0 g1 g2 g3 g4]; rfl, rfl, by rw [akS_y (akN_4 g0 g1 g2 g3 g4) (by decide)]; exact s62, ((((c6).tr c20).tr c34).tr c48).tr c62⟩
        · have g3 : wAt U s = kw 35 := of_decide_eq_true (rt_of h51)
          refine Ev_const rfl ?_
          exact Ev_ireturn rfl rfl rfl rfl ⟨by rw [akN_3 g0 g1 g2 g3]; rfl, rfl, by rw [akS_y (akN_3 g0 g1 g2 g3) (by decide)]; exact s48, (((c6).tr c20).tr c34).tr c48⟩
      · have g2 : wAt U s = kw 34 := of_decide_eq_true (rt_of h37)
        refine Ev_const rfl ?_
        exact Ev_ireturn rfl rfl rfl rfl ⟨by rw [akN_2 g0 g1 g2]; rfl, rfl, by rw [akS_y (akN_2 g0 g1 g2) (by decide)]; exact s34, ((c6).tr c20).tr c34⟩
    · have g1 : wAt U s = kw 33 := of_decide_eq_true (rt_of h23)
      refine Ev_const rfl ?_
      exact Ev_ireturn rfl rfl rfl rfl ⟨by rw [akN_1 g0 g1]; rfl, rfl, by rw [akS_y (akN_1 g0 g1) (by decide)]; exact s20, (c6).tr c20⟩
  · have g0 : wAt U s = kw 32 := of_decide_eq_true (rt_of h9)
    refine Ev_const rfl ?_
    exact Ev_ireturn rfl rfl rfl rfl ⟨by rw [akN_0  g0]; rfl, rfl, by rw [akS_y (akN_0  g0) (by decide)]; exact s6, c6⟩
theorem t_readQuestion (d : Nat) {σ : St} {s : Rdg} (hρ : RF ρ) (hT : TxW U) (H : CTt σ U s) :
    T l X (d + 41) 90 [.ref 317, .ref 319] 400 400 ρ σ (fun v ρ' σ' => v = some (.int (nI (akN (wAt U s)))) ∧ (RF ρ' ∧ ∀ k j, k ≠ 318 → ρ' k j = ρ k j) ∧ CTt σ' U (akE U (akF U (akN (wAt U s)) (akS U s)).1) ∧ COr σ' 319 0 (akF U (akN (wAt U s)) (akS U s)).2 ∧ CF cAk σ σ') := by
  have hk5 := akN_le (wAt U s)
  have hOk : OkO 319 := Or.inr (Or.inr rfl)
  have c0 : CF cAk σ (sI σ 319 (upd (σ.1 319) 2 (nI 0))) := CF.put σ _ rfl
  have s0 : CTt (sI σ 319 (upd (σ.1 319) 2 (nI 0))) U s := H.cf (C := fun k _ => Nat.beq k 319) (CF.put σ _ rfl) (fun _ => rfl) (fun _ => rfl)
  have o0 : ∀ σ1, CF cTt (sI σ 319 (upd (σ.1 319) 2 (nI 0))) σ1 → COr σ1 319 0 [] := fun σ1 h1 => ⟨Nat.zero_le _, by rw [h1.1 319 _ (cTt_f (by decide)), sR_0, pk_us]; rfl, fun j hj => absurd hj (Nat.not_lt_zero j)⟩
  have hw := t_takenWord (l := l) (X := X) (d + 32) hρ hT s0
  generalize akN (wAt U s) = k at *
  generalize akS U s = s1 at *
  have fin : ∀ (ρ2 : Rf) (σ2 : St), (RF ρ2 ∧ ∀ k j, k ≠ 318 → ρ2 k j = ρ k j) → CTt σ2 U (akF U k s1).1 → COr σ2 319 0 (akF U k s1).2 → CF cAk σ σ2 → Ev l X (d + 41) 90 45 [.ref 317, .ref 319, .int (nI k)] [] 400 400 400 ρ2 σ2 (fun v ρ' σ' => v = some (.int (nI k)) ∧ (RF ρ' ∧ ∀ k j, k ≠ 318 → ρ' k j = ρ k j) ∧ CTt σ' U (akE U (akF U k s1).1) ∧ COr σ' 319 0 (akF U k s1).2 ∧ CF cAk σ σ') := by
    intro ρ2 σ2 hr h1 h2 h3
    generalize akF U k s1 = y at *
    have hρ2 := hr.1
    have hev := lkV_m1 (lkC_256 (s := y.1) hT)
    refine Ev_aload rfl rfl rfl ?_
    refine Ev_getR rfl (by first | rfl | assumption) (hρ2 _ _ _ rfl) ?_
    refine Ev_callV rfl rfl rfl rfl rfl (same_n 400) (t_look _ hρ2 hT h1) ?_
    rintro v49 ρ49 σ49 ⟨rfl, e49, s49, c49⟩
    obtain rfl := e49.symm
    refine Ev_const rfl ?_
    refine Ev_icmp_eq rfl (fun h53 => ?_) (fun h53 => ?_)
    · refine Ev_iload rfl rfl ?_
      exact Ev_ireturn rfl rfl rfl rfl ⟨rfl, hr, by unfold akE; rw [if_pos (hev.mp h53)]; exact s49, h2.cf c49 (fun _ => cTt_f (by decide)) (fun _ => cTt_f (by decide)), h3.tr (cTt_k c49)⟩
    · refine Ev_aload rfl rfl rfl ?_
      refine Ev_getR rfl (by first | rfl | assumption) (hρ2 _ _ _ rfl) ?_
      refine Ev_const rfl ?_
      refine Ev_aload rfl rfl rfl ?_
      refine Ev_getR rfl (by first | rfl | assumption) (hρ2 _ _ _ rfl) ?_
      refine Ev_getI rfl (by first | rfl | assumption) ?_
      refine Ev_callV rfl rfl rfl rfl rfl (same_n 400) (t_fail _ (w := 1) (k := rpos (lkS U y.1) + 0) s49 (by decide) (atV s49)) ?_
      rintro v68 ρ68 σ68 ⟨rfl, e68, s68, c68⟩
      obtain rfl := e68.symm
      refine Ev_iload rfl rfl ?_
      exact Ev_ireturn rfl rfl rfl rfl ⟨rfl, hr, by unfold akE; rw [if_neg (fun z => h53 (hev.mpr z)), flA_P]; exact s68, (h2.cf c49 (fun _ => cTt_f (by decide)) (fun _ => cTt_f (by decide))).cf c68 (fun _ => cTt_f (by decide)) (fun _ => cTt_f (by decide)), (h3.tr (cTt_k c49)).tr (cTt_k c68)⟩
  have go : ∀ σ6, CTt σ6 U s1 → CF cTt (sI σ 319 (upd (σ.1 319) 2 (nI 0))) σ6 → Ev l X (d + 41) 90 10 [.ref 317, .ref 319, .int (nI k)] [] 400 400 400 ρ σ6 (fun v ρ' σ' => v = some (.int (nI k)) ∧ (RF ρ' ∧ ∀ k j, k ≠ 318 → ρ' k j = ρ k j) ∧ CTt σ' U (akE U (akF U k s1).1) ∧ COr σ' 319 0 (akF U k s1).2 ∧ CF cAk σ σ') := by
    intro σ6 s6 c6
    by_cases hk2 : k ≤ 2
    · have eF : akF U k s1 = (lvl U 4 6).2.1 (s1, []) := if_pos hk2
      rw [eF] at fin ⊢
      refine Ev_iload rfl rfl ?_
      refine Ev_if_eq rfl (fun h11 => ?_) (fun h11 => ?_)
      · refine Ev_aload rfl rfl rfl ?_
        refine Ev_getR rfl (by first | rfl | assumption) (hρ _ _ _ rfl) ?_
        refine Ev_aload rfl rfl rfl ?_
        refine Ev_const rfl ?_
        refine Ev_callV rfl rfl rfl rfl rfl (same_n 400) (t_readTest _ (k := 4) hρ hT hOk (by decide) s6 (o0 σ6 c6)) ?_
        rintro v30 ρ30 σ30 ⟨rfl, r30, s30, o30, c30⟩
        refine Ev_goto rfl ?_
        exact fin _ _ r30 s30 o30 ((c0.tr (cTt_k c6)).tr (cFo_k c30))
      · refine Ev_iload rfl rfl ?_
        refine Ev_const rfl ?_
        refine Ev_icmp_eq rfl (fun h16 => ?_) (fun h16 => ?_)
        · refine Ev_aload rfl rfl rfl ?_
          refine Ev_getR rfl (by first | rfl | assumption) (hρ _ _ _ rfl) ?_
          refine Ev_aload rfl rfl rfl ?_
          refine Ev_const rfl ?_
          refine Ev_callV rfl rfl rfl rfl rfl (same_n 400) (t_readTest _ (k := 4) hρ hT hOk (by decide) s6 (o0 σ6 c6)) ?_
          rintro v30 ρ30 σ30 ⟨rfl, r30, s30, o30, c30⟩
          refine Ev_goto rfl ?_
          exact fin _ _ r30 s30 o30 ((c0.tr (cTt_k c6)).tr (cFo_k c30))
        · refine Ev_iload rfl rfl ?_
          refine Ev_const rfl ?_
          refine Ev_icmp_ne rfl (fun h21 => absurd hk2 (fun z => by rcases (by omega : k = 0 ∨ k = 1 ∨ k = 2) with rfl | rfl | rfl; exact absurd rfl h11; exact absurd rfl h16; exact absurd rfl h21)) (fun h21 => ?_)
          refine Ev_aload rfl rfl rfl ?_
          refine Ev_getR rfl (by first | rfl | assumption) (hρ _ _ _ rfl) ?_
          refine Ev_aload rfl rfl rfl ?_
          refine Ev_const rfl ?_
          refine Ev_callV rfl rfl rfl rfl rfl (same_n 400) (t_readTest _ (k := 4) hρ hT hOk (by decide) s6 (o0 σ6 c6)) ?_
          rintro v30 ρ30 σ30 ⟨rfl, r30, s30, o30, c30⟩
          refine Ev_goto rfl ?_
          exact fin _ _ r30 s30 o30 ((c0.tr (cTt_k c6)).tr (cFo_k c30))
    · have eF : akF U k s1 = (lvl U 4 6).2.2.1 (s1, []) := if_neg hk2
      rw [eF] at fin ⊢
      refine Ev_iload rfl rfl ?_
      refine Ev_if_eq rfl (fun h11 => absurd ((nI_eq (b := 0) (by omega) (by decide)).mp h11) (by omega)) (fun h11 => ?_)
      refine Ev_iload rfl rfl ?_
      refine Ev_const rfl ?_
      refine Ev_icmp_eq rfl (fun h16 => absurd ((nI_eq (b := 1) (by omega) (by decide)).mp h16) (by omega)) (fun h16 => ?_)
      refine Ev_iload rfl rfl ?_
      refine Ev_const rfl ?_
      refine Ev_icmp_ne rfl (fun h21 => ?_) (fun h21 => absurd ((nI_eq (b := 2) (by omega) (by decide)).mp (Decidable.not_not.mp h21)) (by omega))
      refine Ev_aload rfl rfl rfl ?_
      refine Ev_getR rfl (by first | rfl | assumption) (hρ _ _ _ rfl) ?_
      refine Ev_aload rfl rfl rfl ?_
      refine Ev_const rfl ?_
      refine Ev_callV rfl rfl rfl rfl rfl (same_n 400) (t_readSum _ (k := 4) hρ hT hOk (by decide) (by decide) s6 (o0 σ6 c6)) ?_
      rintro v42 ρ42 σ42 ⟨rfl, r42, s42, o42, c42⟩
      exact fin _ _ r42 s42 o42 ((c0.tr (cTt_k c6)).tr (cFo_k c42))
  refine T_of rfl ?_
  refine Ev_aload rfl rfl rfl ?_
  refine Ev_const rfl ?_
  refine Ev_putI rfl (by first | rfl | assumption) ⟨rfl, rfl⟩ rfl ?_
  refine Ev_aload rfl rfl rfl ?_
  refine Ev_callV rfl rfl rfl rfl rfl (same_n 400) hw ?_
  rintro v6 ρ6 σ6 ⟨rfl, e6, s6, c6⟩
  obtain rfl := e6.symm
  refine Ev_istore rfl ?_
  exact go σ6 s6 c6
end S88zzk
