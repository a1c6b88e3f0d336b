/-! A question read: what it asks for; the class. -/
/-- which of the words it begins with -/
def akN (w : List Nat) : Nat := if w = kw 32 then 0 else if w = kw 33 then 1 else if w = kw 34 then 2 else if w = kw 35 then 3 else if w = kw 36 then 4 else 5
def akS (U : Tx) (s : Rdg) : Rdg := if akN (wAt U s) < 5 then tWd U (kw (32 + akN (wAt U s))) s else aWd U (kw 37) s
def akF (U : Tx) (k : Nat) (s : Rdg) : Xs := if k ≤ 2 then (lvl U 4 6).2.1 (s, []) else (lvl U 4 6).2.2.1 (s, [])
/-- nothing comes behind it -/
def akE (U : Tx) (s : Rdg) : Rdg := if lkC U s = none then lkS U s else flA 1 0 (lkS U s)
theorem akN_le (w : List Nat) : akN w ≤ 5 := by
  unfold akN
  repeat' split
  all_goals decide
theorem akN_0 {w : List Nat}  (h : w = kw 32) : akN w = 0 := by unfold akN; rw [if_pos h]
theorem akN_1 {w : List Nat} (h0 : ¬ w = kw 32) (h : w = kw 33) : akN w = 1 := by unfold akN; rw [if_neg h0, if_pos h]
theorem akN_2 {w : List Nat} (h0 : ¬ w = kw 32) (h1 : ¬ w = kw 33) (h : w = kw 34) : akN w = 2 := by unfold akN; rw [if_neg h0, if_neg h1, if_pos h]
theorem akN_3 {w : List Nat} (h0 : ¬ w = kw 32) (h1 : ¬ w = kw 33) (h2 : ¬ w = kw 34) (h : w = kw 35) : akN w = 3 := by unfold akN; rw [if_neg h0, if_neg h1, if_neg h2, if_pos h]
theorem akN_4 {w : List Nat} (h0 : ¬ w = kw 32) (h1 : ¬ w = kw 33) (h2 : ¬ w = kw 34) (h3 : ¬ w = kw 35) (h : w = kw 36) : akN w = 4 := by unfold akN; rw [if_neg h0, if_neg h1, if_neg h2, if_neg h3, if_pos h]
theorem akN_5 {w : List Nat} (h0 : ¬ w = kw 32) (h1 : ¬ w = kw 33) (h2 : ¬ w = kw 34) (h3 : ¬ w = kw 35) (h4 : ¬ w = kw 36)  : akN w = 5 := by unfold akN; rw [if_neg h0, if_neg h1, if_neg h2, if_neg h3, if_neg h4]
theorem akS_y {U : Tx} {s : Rdg} {j : Nat} (h : akN (wAt U s) = j) (hj : j < 5) : akS U s = tWd U (kw (32 + j)) s := by
  unfold akS; rw [h, if_pos hj]
theorem akS_n {U : Tx} {s : Rdg} (h : akN (wAt U s) = 5) : akS U s = aWd U (kw 37) s := by
  unfold akS; rw [h, if_neg (by decide)]
theorem aWd_i (U : Tx) (w : List Nat) (s : Rdg) : aWd U w (lkS U s) = aWd U w s := by unfold aWd; rw [lkS_i, wAt_i]
def cAk (k j : Nat) : Bool := cTt k j || (Nat.beq k 318 && Nat.beq j 2) || Nat.beq k 319 || Nat.beq k 320 || Nat.beq k 321 || Nat.beq k 322
theorem cAk_f {k j : Nat} (h : cAk k j = false) : cTt k j = false ∧ (Nat.beq k 318 && Nat.beq j 2) = false ∧ Nat.beq k 319 = false ∧ Nat.beq k 320 = false ∧ Nat.beq k 321 = false ∧ Nat.beq k 322 = false := by
  unfold cAk at h
  simp only [Bool.or_eq_false_iff] at h
  exact ⟨h.1.1.1.1.1, h.1.1.1.1.2, h.1.1.1.2, h.1.1.2, h.1.2, h.2⟩
theorem cTt_k {σ σ' : St} (h : CF cTt σ σ') : CF cAk σ σ' := h.wk (fun k j z => (cAk_f z).1)
theorem cFo_k {σ σ' : St} (h : CF (cFo 319 0) σ σ') : CF cAk σ σ' := h.wk (fun k j z => by
  obtain ⟨h1, h2, h3, h4, -⟩ := cAk_f z
  unfold cFo cOr
  rw [h1, h3, h4]; rfl)
theorem cCl_k {σ σ' : St} (h : CF (cCl 319) σ σ') : CF cAk σ σ' := h.wk (fun k j z => by
  obtain ⟨h1, h2, h3, h4, h5, h6⟩ := cAk_f z
  unfold cCl
  rw [h3, h5, h6]; rfl)
/-- nothing behind it: by what stands here -/
theorem CTt.endE {σ : St} {U : Tx} {s : Rdg} (hT : TxW U) (H : CTt σ U s) : (σ.1 316 2 = -1 → CTe σ U (akE U s)) ∧ (¬ σ.1 316 2 = -1 → akE U s = flA 1 0 (lkS U s)) := by
  obtain ⟨s0, h1, e2, e3, -, -, h6⟩ := H.here
  have ee : akE U s = akE U s0 := by unfold akE; rw [e2, e3]
  rw [ee, e3, h6]
  cases s0 with
  | inl e => exact ⟨fun _ => h1, fun z => absurd rfl z⟩
  | inr p =>
    obtain ⟨r1, r2, r3⟩ := lk_r (U := U) p
    by_cases hl : U.1 ≤ skp U p.1
    · have a1 : akE U (.inr p) = lkS U (.inr p) := by unfold akE; rw [if_pos (r1 hl).2]
      have a2 : hcd U (.inr p) = -1 := if_pos hl
      rw [a1, a2]
      exact ⟨fun _ => by rw [(r1 hl).1]; exact h1.lk hT (r1 hl).1, fun z => absurd rfl z⟩
    · cases hc : cfl U (skp U p.1) (tcN U p.1 p.2) with
      | true =>
        have a1 : akE U (.inr p) = lkS U (.inr p) := by unfold akE; rw [if_pos (r2 (by omega) hc).2]
        have a2 : hcd U (.inr p) = 256 := by unfold hcd; show (if _ then _ else _) = _; rw [if_neg hl, hc]; rfl
        rw [a1, a2, (r2 (by omega) hc).1]
        exact ⟨fun z => absurd z (by decide), fun _ => rfl⟩
      | false =>
        have a1 : akE U (.inr p) = flA 1 0 (lkS U (.inr p)) := by unfold akE; rw [(r3 (by omega) hc).2, if_neg (fun z => by cases z)]
        have a2 : hcd U (.inr p) = nI (tkc U (skp U p.1)) := by unfold hcd; show (if _ then _ else _) = _; rw [if_neg hl, hc]; rfl
        rw [a1, a2]
        refine ⟨fun z => absurd z (nI_m1 ?_), fun _ => rfl⟩
        rcases tkc_r hT (skp U p.1) with ⟨g1, g2⟩ | ⟨g1, g2, g3⟩ | ⟨g1, g2, g3, g4⟩
        · have := wcd_lt (wrd U (skp U p.1)); omega
        · omega
        · omega
/-- which of a question's words stands here -/
theorem CTt.ask {σ : St} {U : Tx} {s : Rdg} (hT : TxW U) (H : CTt σ U s) : (∃ j, j < 6 ∧ wAt U s = wL.getD (27 + j) [] ∧ σ.1 316 2 = nI (286 + j)) ∨ ((∀ j, j < 6 → ¬ wAt U s = wL.getD (27 + j) []) ∧ ¬ 286 ≤ σ.1 316 2) := by
  by_cases h : ∃ j, j < 6 ∧ wAt U s = wL.getD (27 + j) []
  · obtain ⟨j, h1, h2⟩ := h
    have := (H.hw hT (i := 27 + j) (by omega)).mpr h2
    rw [show 259 + (27 + j) = 286 + j by omega] at this
    exact Or.inl ⟨j, h1, h2, this⟩
  · refine Or.inr ⟨fun j hj z => h ⟨j, hj, z⟩, fun z => ?_⟩
    obtain ⟨s0, -, -, -, h4, -, h6⟩ := H.here
    rw [h6] at z; rw [h4] at h
    rcases hcd_c (U := U) s0 with ⟨h1, h2 | h2⟩ | ⟨a, tc, h1, h2, h3, h5⟩
    · rw [h2] at z; exact absurd z (by decide)
    · rw [h2] at z; exact absurd z (by decide)
    · rw [h5] at z
      rcases tkc_r hT a with ⟨g1, g2⟩ | ⟨g1, g2, g3⟩ | ⟨g1, g2, g3, g4⟩
      · rw [g2] at z
        rcases wcd_r (wrd U a) with ⟨k1, k2⟩ | ⟨j, k1, k2, k3⟩
        · rw [k1] at z; exact absurd z (by decide)
        · rw [k2] at z
          by_cases hj : j < 27
          · exact absurd z (nI_ge (b := 286) (by omega) (by omega))
          · exact h ⟨j - 27, by omega, by rw [wAt_of h2 h1, show 27 + (j - 27) = j by omega]; exact k3.symm⟩
      · rw [g3] at z; exact absurd z (by decide)
      · rw [g3] at z; exact absurd z (nI_ge (b := 286) (by omega) (by omega))
theorem flA_l (w k : Nat) (s : Rdg) : ∃ e, flA w k s = .inl e := by
  cases s with
  | inl e => exact ⟨e, rfl⟩
  | inr p => exact ⟨_, rfl⟩
theorem akF_l {U : Tx} {k : Nat} (e : Nat × Nat) : (akF U k (.inl e)).1 = .inl e := by
  unfold akF
  split
  · exact fl_te (D := lvl U 4 5) e []
  · exact fl_sm (D := lvl U 4 5) e []
theorem akN_L {w : List Nat} {j : Nat} (hj : j < 6) (h : w = wL.getD (27 + j) []) : akN w = j ∧ w = kw (32 + j) := by
  subst h
  rcases (show j = 0 ∨ j = 1 ∨ j = 2 ∨ j = 3 ∨ j = 4 ∨ j = 5 by omega) with rfl | rfl | rfl | rfl | rfl | rfl
  · exact ⟨by decide, rfl⟩
  · exact ⟨by decide, rfl⟩
  · exact ⟨by decide, rfl⟩
  · exact ⟨by decide, rfl⟩
  · exact ⟨by decide, rfl⟩
  · exact ⟨by decide, rfl⟩
theorem akS_L {U : Tx} {s : Rdg} {j : Nat} (hj : j < 6) (h : wAt U s = wL.getD (27 + j) []) : akS U s = adv (wL.getD (27 + j) []).length 1 (lkS U s) := by
  obtain ⟨h1, h2⟩ := akN_L hj h
  unfold akS
  rw [h1]
  by_cases h5 : j < 5
  · rw [if_pos h5]; rw [tWd_y h2, ← h, ← h2]
  · rw [if_neg h5]
    have h6 : wAt U s = kw 37 := by rw [h2, show 32 + j = 37 by omega]
    unfold aWd
    rw [if_pos h6, ← h, h6]
theorem akS_no {U : Tx} {s : Rdg} (h : ∀ j, j < 6 → ¬ wAt U s = wL.getD (27 + j) []) : akS U s = flA 1 0 (lkS U s) := by
  have h5 : akN (wAt U s) = 5 := akN_5 (h 0 (by decide)) (h 1 (by decide)) (h 2 (by decide)) (h 3 (by decide)) (h 4 (by decide))
  rw [akS_n h5]
  unfold aWd
  exact if_neg (h 5 (by decide))
/-- a question read: the word it begins with, what it asks by -/
def AkQ (U : Tx) (ρ : Rf) (σ : St) (k : Nat) (y : Xs) : Po := fun v ρ' σ' => (∃ x, v = some (.int x) ∧ (isOk (akE U y.1) = true → x = nI (286 + k) ∧ COr σ' 319 0 y.2 ∧ σ'.1 321 4 = nI 0 ∧ σ'.1 322 4 = σ'.1 319 4)) ∧ (RF ρ' ∧ ∀ k j, k ≠ 318 → ρ' k j = ρ k j) ∧ CTe σ' U (akE U y.1) ∧ CF cAk σ σ'
section S88zzk
variable {l : Launch} {X : Cx} {ρ : Rf} {U : Tx}
theorem t_askEnd (d : Nat) {ρ2 : Rf} {σ σ2 : St} {k : Nat} {y : Xs} (hT : TxW U) (hr : RF ρ2 ∧ ∀ k j, k ≠ 318 → ρ2 k j = ρ k j) (h1 : CTt σ2 U y.1) (h2 : COr σ2 319 0 y.2) (h3 : CF cAk σ σ2) (h4 : σ2.1 321 4 = nI 0) :
    Ev l X (d + 41) 90 92 [.ref 317, .ref 319, .int (nI (286 + k))] [] 402 402 402 ρ2 σ2 (AkQ U ρ σ k y) := by
  have hρ2 := hr.1
  have hOk : OkO 319 := Or.inr (Or.inr rfl)
  have hfin := t_ordFinish (l := l) (X := X) (σ := σ2) (d + 40) hρ2 hOk (k := 4) (by decide)
  have c3 : CF (fun a _ => Nat.beq a 322) σ2 (sI σ2 (319 + 3) (upd (σ2.1 (319 + 3)) 4 (σ2.1 319 4))) := CF.put _ _ rfl
  have c3k : CF cAk σ2 (sI σ2 (319 + 3) (upd (σ2.1 (319 + 3)) 4 (σ2.1 319 4))) := c3.wk (fun a b z => (cAk_f z).2.2.2.2.2)
  have g1 : CTt (sI σ2 (319 + 3) (upd (σ2.1 (319 + 3)) 4 (σ2.1 319 4))) U y.1 := h1.cf c3 (fun _ => rfl) (fun _ => rfl)
  have g2 : COr (sI σ2 (319 + 3) (upd (σ2.1 (319 + 3)) 4 (σ2.1 319 4))) 319 0 y.2 := h2.cf c3 (fun _ => rfl) (fun _ => rfl)
  have g4 : (sI σ2 (319 + 3) (upd (σ2.1 (319 + 3)) 4 (σ2.1 319 4))).1 321 4 = nI 0 := (c3.1 321 4 rfl).trans h4
  have g5 : (sI σ2 (319 + 3) (upd (σ2.1 (319 + 3)) 4 (σ2.1 319 4))).1 322 4 = (sI σ2 (319 + 3) (upd (σ2.1 (319 + 3)) 4 (σ2.1 319 4))).1 319 4 := by
    rw [sR_1 _ _ (show 319 ≠ 319 + 3 by decide)]
    show (sI σ2 (319 + 3) (upd (σ2.1 (319 + 3)) 4 (σ2.1 319 4))).1 (319 + 3) 4 = _
    rw [sR_0, pk_us]
  have g3 := h3.tr c3k
  generalize sI σ2 (319 + 3) (upd (σ2.1 (319 + 3)) 4 (σ2.1 319 4)) = σ3 at *
  obtain ⟨k1, k2⟩ := g1.endE hT
  refine Ev_aload rfl rfl rfl ?_
  refine Ev_const rfl ?_
  refine Ev_callV rfl rfl rfl rfl rfl (same_n 402) hfin ?_
  rintro v94 ρ94 σ94 ⟨rfl, e94, g94⟩
  obtain rfl := e94.symm
  obtain rfl := g94.symm
  refine Ev_aload rfl rfl rfl ?_
  refine Ev_getR rfl (by first | rfl | assumption) (hρ2 _ _ _ rfl) ?_
  refine Ev_getI rfl (by first | rfl | assumption) ?_
  refine Ev_const rfl ?_
  refine Ev_icmp_eq rfl (fun h105 => ?_) (fun h105 => ?_)
  · refine Ev_iload rfl rfl ?_
    exact Ev_ireturn rfl rfl rfl rfl ⟨⟨_, rfl, fun _ => ⟨rfl, g2, g4, g5⟩⟩, hr, k1 h105, g3⟩
  · refine Ev_aload rfl rfl rfl ?_
    refine Ev_getR rfl (by first | rfl | assumption) (hρ2 _ _ _ rfl) ?_
    refine Ev_const rfl ?_
    refine Ev_aload rfl rfl rfl ?_
    refine Ev_getR rfl (by first | rfl | assumption) (hρ2 _ _ _ rfl) ?_
    refine Ev_getI rfl (by first | rfl | assumption) ?_
    refine Ev_callV rfl rfl rfl rfl rfl (same_n 402) (t_failH _ hT g1) ?_
    rintro v120 ρ120 σ120 ⟨rfl, e120, s120, c120⟩
    obtain rfl := e120.symm
    refine Ev_iload rfl rfl ?_
    exact Ev_ireturn rfl rfl rfl rfl ⟨⟨_, rfl, fun z => by rw [k2 h105] at z; obtain ⟨e, he⟩ := flA_l 1 0 (lkS U y.1); rw [he] at z; cases z⟩, hr, by rw [k2 h105]; exact s120, g3.tr (cTt_k c120)⟩
theorem t_readQuestion (d : Nat) {σ : St} {s : Rdg} (hρ : RF ρ) (hT : TxW U) (H : CTt σ U s) :
    T l X (d + 41) 90 [.ref 317, .ref 319] 402 402 ρ σ (AkQ U ρ σ (akN (wAt U s)) (akF U (akN (wAt U s)) (akS U s))) := by
  have hOk : OkO 319 := Or.inr (Or.inr rfl)
  have go : ∀ σ9 : St, σ9.1 319 4 = nI 0 → (∀ j, j < 5 → σ9.1 321 j = -1) → CF (cCl 319) σ σ9 → Ev l X (d + 41) 90 12 [.ref 317, .ref 319, .int (σ.1 316 2)] [] 402 402 402 ρ σ9 (AkQ U ρ σ (akN (wAt U s)) (akF U (akN (wAt U s)) (akS U s))) := by
    intro σ9 z9 f9 c9
    have H9 : CTt σ9 U s := H.cf c9 (fun _ => rfl) (fun _ => rfl)
    have eh : σ9.1 316 2 = σ.1 316 2 := c9.1 _ _ rfl
    have hC9 : COr σ9 319 0 [] := ⟨Nat.zero_le _, z9, fun j hj => absurd hj (Nat.not_lt_zero j)⟩
    have hP := fo_pre (k := 4) (x := σ9.1 319 4) hOk H9 hC9
    have hbeg := t_foBegin (l := l) (X := X) (σ := σ9) (d + 39) hρ hOk (k := 4) (by decide)
    have cb : CF cAk σ9 (foS σ9 319 4 (σ9.1 319 4)) := by
      unfold foS
      exact (CF.put (C := cAk) σ9 _ rfl).tr (CF.put (C := cAk) _ _ rfl)
    have g4 : (foS σ9 319 4 (σ9.1 319 4)).1 321 4 = nI 0 := by
      show (sI _ (319 + 2) (upd (σ9.1 (319 + 2)) 4 (σ9.1 319 4))).1 (319 + 2) 4 = _
      rw [sR_0, pk_us]; exact z9
    have ck : CF cAk σ (foS σ9 319 4 (σ9.1 319 4)) := (cCl_k c9).tr cb
    have hro : RF (sR ρ 318 (va_up (ρ 318) 1 (some 319))) ∧ ∀ k j, k ≠ 318 → (sR ρ 318 (va_up (ρ 318) 1 (some 319))) k j = ρ k j := ⟨rf_318 hρ _, fun k j hk => rf_318n _ hk⟩
    generalize foS σ9 319 4 (σ9.1 319 4) = σ2 at *
    rcases H.ask hT with ⟨j, hj, hw, hx⟩ | ⟨hno, hx⟩
    · obtain ⟨eN, -⟩ := akN_L hj hw
      have eS := akS_L hj hw
      rw [eN, eS, hx]
      have hwn : wL.getD (27 + j) [] ≠ [] := (wL_ne (27 + j) (by omega)).1
      have hnx := t_nextW (l := l) (X := X) (d + 35) hro.1 hT hP.1 hw hwn
      generalize adv (wL.getD (27 + j) []).length 1 (lkS U s) = s1 at *
      by_cases hk2 : j ≤ 2
      · have eF : akF U j s1 = (lvl U 4 6).2.1 (s1, []) := if_pos hk2
        rw [eF]
        refine Ev_aload rfl rfl rfl ?_
        refine Ev_getR rfl (by first | rfl | assumption) (hρ _ _ _ rfl) ?_
        refine Ev_aload rfl rfl rfl ?_
        refine Ev_const rfl ?_
        refine Ev_callV rfl rfl rfl rfl rfl (same_n 402) hbeg ?_
        rintro v18 ρ18 σ18 ⟨rfl, e18, g18⟩
        obtain rfl := e18.symm
        obtain rfl := g18.symm
        refine Ev_iload rfl rfl ?_
        refine Ev_const rfl ?_
        refine Ev_icmp_ge rfl (fun h25 => ?_) (fun h25 => absurd (nI_le (a := 286) (b := 286 + j) (by omega) (by omega)) h25)
        refine Ev_aload rfl rfl rfl ?_
        refine Ev_getR rfl (by first | rfl | assumption) (hro.1 _ _ _ rfl) ?_
        refine Ev_callV rfl rfl rfl rfl rfl (same_n 402) hnx ?_
        rintro v49 ρ49 σ49 ⟨rfl, e49, s49, c49⟩
        obtain rfl := e49.symm
        have hp1 := hP.tx2 hOk s49.t c49
        refine Ev_iload rfl rfl ?_
        refine Ev_const rfl ?_
        refine Ev_icmp_eq rfl (fun h56 => ?_) (fun h56 => ?_)
        · refine Ev_aload rfl rfl rfl ?_
          refine Ev_getR rfl (by first | rfl | assumption) (hro.1 _ _ _ rfl) ?_
          refine Ev_const rfl ?_
          refine Ev_callV rfl rfl rfl rfl rfl (same_n 402) (t_foTest _ hρ hT hOk (by decide) hp1) ?_
          rintro v78 ρ78 σ78 ⟨rfl, e78, H78, c78⟩
          obtain rfl := e78.symm
          refine Ev_goto rfl ?_
          exact t_askEnd d hT hro H78.1 H78.2.1 ((ck.tr (cTt_k c49)).tr (cFo_k c78)) (by rw [c78.1 321 4 rfl, c49.1 321 4 rfl]; exact g4)
        · refine Ev_iload rfl rfl ?_
          refine Ev_const rfl ?_
          refine Ev_icmp_eq rfl (fun h63 => ?_) (fun h63 => ?_)
          · refine Ev_aload rfl rfl rfl ?_
            refine Ev_getR rfl (by first | rfl | assumption) (hro.1 _ _ _ rfl) ?_
            refine Ev_const rfl ?_
            refine Ev_callV rfl rfl rfl rfl rfl (same_n 402) (t_foTest _ hρ hT hOk (by decide) hp1) ?_
            rintro v78 ρ78 σ78 ⟨rfl, e78, H78, c78⟩
            obtain rfl := e78.symm
            refine Ev_goto rfl ?_
            exact t_askEnd d hT hro H78.1 H78.2.1 ((ck.tr (cTt_k c49)).tr (cFo_k c78)) (by rw [c78.1 321 4 rfl, c49.1 321 4 rfl]; exact g4)
          · refine Ev_iload rfl rfl ?_
            refine Ev_const rfl ?_
            refine Ev_icmp_ne rfl (fun h70 => absurd hk2 (fun z => by rcases (by omega : j = 0 ∨ j = 1 ∨ j = 2) with rfl | rfl | rfl; exact absurd rfl h56; exact absurd rfl h63; exact absurd rfl h70)) (fun h70 => ?_)
            refine Ev_aload rfl rfl rfl ?_
            refine Ev_getR rfl (by first | rfl | assumption) (hro.1 _ _ _ rfl) ?_
            refine Ev_const rfl ?_
            refine Ev_callV rfl rfl rfl rfl rfl (same_n 402) (t_foTest _ hρ hT hOk (by decide) hp1) ?_
            rintro v78 ρ78 σ78 ⟨rfl, e78, H78, c78⟩
            obtain rfl := e78.symm
            refine Ev_goto rfl ?_
            exact t_askEnd d hT hro H78.1 H78.2.1 ((ck.tr (cTt_k c49)).tr (cFo_k c78)) (by rw [c78.1 321 4 rfl, c49.1 321 4 rfl]; exact g4)
      · have eF : akF U j s1 = (lvl U 4 6).2.2.1 (s1, []) := if_neg hk2
        rw [eF]
        refine Ev_aload rfl rfl rfl ?_
        refine Ev_getR rfl (by first | rfl | assumption) (hρ _ _ _ rfl) ?_
        refine Ev_aload rfl rfl rfl ?_
        refine Ev_const rfl ?_
        refine Ev_callV rfl rfl rfl rfl rfl (same_n 402) hbeg ?_
        rintro v18 ρ18 σ18 ⟨rfl, e18, g18⟩
        obtain rfl := e18.symm
        obtain rfl := g18.symm
        refine Ev_iload rfl rfl ?_
        refine Ev_const rfl ?_
        refine Ev_icmp_ge rfl (fun h25 => ?_) (fun h25 => absurd (nI_le (a := 286) (b := 286 + j) (by omega) (by omega)) h25)
        refine Ev_aload rfl rfl rfl ?_
        refine Ev_getR rfl (by first | rfl | assumption) (hro.1 _ _ _ rfl) ?_
        refine Ev_callV rfl rfl rfl rfl rfl (same_n 402) hnx ?_
        rintro v49 ρ49 σ49 ⟨rfl, e49, s49, c49⟩
        obtain rfl := e49.symm
        have hp1 := hP.tx2 hOk s49.t c49
        refine Ev_iload rfl rfl ?_
        refine Ev_const rfl ?_
        refine Ev_icmp_eq rfl (fun h56 => absurd ((nI_eq (b := 286) (by omega) (by decide)).mp h56) (by omega)) (fun h56 => ?_)
        refine Ev_iload rfl rfl ?_
        refine Ev_const rfl ?_
        refine Ev_icmp_eq rfl (fun h63 => absurd ((nI_eq (b := 287) (by omega) (by decide)).mp h63) (by omega)) (fun h63 => ?_)
        refine Ev_iload rfl rfl ?_
        refine Ev_const rfl ?_
        refine Ev_icmp_ne rfl (fun h70 => ?_) (fun h70 => absurd ((nI_eq (b := 288) (by omega) (by decide)).mp (Decidable.not_not.mp h70)) (by omega))
        refine Ev_aload rfl rfl rfl ?_
        refine Ev_getR rfl (by first | rfl | assumption) (hro.1 _ _ _ rfl) ?_
        refine Ev_const rfl ?_
        refine Ev_callV rfl rfl rfl rfl rfl (same_n 402) (t_foSum _ hρ hT hOk (by decide) hp1) ?_
        rintro v89 ρ89 σ89 ⟨rfl, e89, H89, c89⟩
        obtain rfl := e89.symm
        exact t_askEnd d hT hro H89.1 H89.2.1 ((ck.tr (cTt_k c49)).tr (cFo_k c89)) (by rw [c89.1 321 4 rfl, c49.1 321 4 rfl]; exact g4)
    · have eS := akS_no hno
      obtain ⟨e, he⟩ := flA_l 1 0 (lkS U s)
      have eE : akE U (akF U (akN (wAt U s)) (akS U s)).1 = .inl e := by rw [eS, he, akF_l]; rfl
      have hfa := t_failH (l := l) (X := X) (d + 40) (ρ := sR ρ 318 (va_up (ρ 318) 1 (some 319))) hT hP.1
      rw [he] at hfa
      generalize akF U (akN (wAt U s)) (akS U s) = y at *
      refine Ev_aload rfl rfl rfl ?_
      refine Ev_getR rfl (by first | rfl | assumption) (hρ _ _ _ rfl) ?_
      refine Ev_aload rfl rfl rfl ?_
      refine Ev_const rfl ?_
      refine Ev_callV rfl rfl rfl rfl rfl (same_n 402) hbeg ?_
      rintro v18 ρ18 σ18 ⟨rfl, e18, g18⟩
      obtain rfl := e18.symm
      obtain rfl := g18.symm
      refine Ev_iload rfl rfl ?_
      refine Ev_const rfl ?_
      refine Ev_icmp_ge rfl (fun h25 => absurd h25 hx) (fun h25 => ?_)
      refine Ev_aload rfl rfl rfl ?_
      refine Ev_getR rfl (by first | rfl | assumption) (hro.1 _ _ _ rfl) ?_
      refine Ev_const rfl ?_
      refine Ev_aload rfl rfl rfl ?_
      refine Ev_getR rfl (by first | rfl | assumption) (hro.1 _ _ _ rfl) ?_
      refine Ev_getI rfl (by first | rfl | assumption) ?_
      refine Ev_callV rfl rfl rfl rfl rfl (same_n 402) hfa ?_
      rintro v40 ρ40 σ40 ⟨rfl, e40, s40, c40⟩
      obtain rfl := e40.symm
      refine Ev_const rfl ?_
      exact Ev_ireturn rfl rfl rfl rfl ⟨⟨_, rfl, fun z => by rw [eE] at z; cases z⟩, hro, by rw [eE]; exact s40, ck.tr (cTt_k c40)⟩
  refine T_of rfl ?_
  refine Ev_aload rfl rfl rfl ?_
  refine Ev_getR rfl (by first | rfl | assumption) (hρ _ _ _ rfl) ?_
  refine Ev_getI rfl (by first | rfl | assumption) ?_
  refine Ev_istore rfl ?_
  refine Ev_aload rfl rfl rfl ?_
  refine Ev_callV rfl rfl rfl rfl rfl (same_n 402) (t_ordClear _ hρ hOk) ?_
  rintro v9 ρ9 σ9 ⟨rfl, e9, z9, f9, c9⟩
  obtain rfl := e9.symm
  exact go σ9 z9 f9 c9
end S88zzk
