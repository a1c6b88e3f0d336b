/-! A formula read: from above down and with a pile come to the same; tests. -/
def FaG (U : Tx) (k M : Nat) (q : Nat × Nat) (out u : List Nat) (o : Nat) (r : Xs) : Prop := match r.1 with
  | .inl e => EZF U k (0, (.inr q, out, u, o)) e
  | .inr p => Ivr U (.inr p) ∧ (∃ cs, r.2 = out ++ cs ∧ cs.length + q.1 ≤ p.1 ∧ Tyk k cs true M) ∧ redZ U k (0, (.inr q, out, u, o)) (1, dnZ (.inr p) r.2 u o)
def FaK (U : Tx) (k n : Nat) (f : Xs → Xs) : Prop := ∀ (q : Nat × Nat) (out u : List Nat) (o : Nat), o + n = 6 → Ivr U (.inr q) → FaG U k (4 + 3 * n) q out u o (f (.inr q, out))
def hdZ (p : Nat → Bool) (u : List Nat) : Prop := ∀ e r, u = e :: r → p e = false ∧ e ≠ 33
def WoG (U : Tx) (k M : Nat) (ws : List (List Nat)) (pp : Nat → Bool) (q : Nat × Nat) (out u : List Nat) (o : Nat) (r : Xs) : Prop := match r.1 with
  | .inl e => EZF U k (0, (.inr q, out, u, o)) e
  | .inr p => Ivr U (.inr p) ∧ lkS U (.inr p) = .inr p ∧ (∀ w, w ∈ ws → wAt U (.inr p) ≠ w) ∧ (∃ cs, r.2 = out ++ cs ∧ cs.length + q.1 ≤ p.1 ∧ Tyk k cs true M) ∧ ∃ pend out1, r.2 = out1 ++ pend ∧ (∀ e, e ∈ pend → pp e = true) ∧ redZ U k (0, (.inr q, out, u, o)) (1, (.inr p, out1, pend ++ u, o))
def BoK (U : Tx) (k n : Nat) (f : Xs → Xs) : Prop := ∀ (q : Nat × Nat) (out u : List Nat) (o : Nat), o + n = 6 → Ivr U (.inr q) → hdZ isAn u → WoG U k (5 + 3 * n) [wAnd] isAn q out u o (f (.inr q, out))
def TeK (U : Tx) (k n : Nat) (f : Xs → Xs) : Prop := ∀ (q : Nat × Nat) (out u : List Nat) (o : Nat), o + n = 6 → Ivr U (.inr q) → hdZ isLo u → WoG U k (6 + 3 * n) [wAnd, wOr] isLo q out u o (f (.inr q, out))
theorem ty_cmp {k t : Nat} (h : 40 ≤ t ∧ t ≤ 42) (st : List Bool) : wt1 k t (false :: false :: st) = some (true :: st) := by
  rcases (by omega : t = 40 ∨ t = 41 ∨ t = 42) with rfl | rfl | rfl <;> rfl
theorem ty_lo {k t : Nat} (h : t = 43 ∨ t = 44) (st : List Bool) : wt1 k t (true :: true :: st) = some (true :: st) := by
  rcases h with rfl | rfl <;> rfl
theorem ty_not {k : Nat} (st : List Bool) : wt1 k 33 (true :: st) = some (true :: st) := rfl
theorem ty_all {k : Nat} (st : List Bool) (hs : st.length < 64) : wt1 k 47 st = some (true :: st) := by
  unfold wt1
  rw [if_neg (by decide), if_neg (by decide), if_pos rfl, if_pos hs]
/-- a sum's fault, in a fact -/
theorem fs_flt {U : Tx} {k f : Nat} {q : Nat × Nat} {out u : List Nat} {o : Nat} {r' : Xs} {e : Nat × Nat} (h1 : mC U (.inr q) ≠ some 91) (h2 : mWd U (.inr q) ≠ wNot) (h3 : mWd U (.inr q) ≠ wAll) (hq : qsF U k f (skM U (.inr q)) out o = some r') (he : lkS U r'.1 = .inl e) : EZF U k (0, (.inr q, out, u, o)) e := by
  have e0 : ∀ c, (bif isOk r'.1 then (match sgQ (mC U r'.1) with | none => some (1, (flA 1 0 (skM U r'.1), r'.2, (u, o))) | some t => (qsF U k f (adv 1 0 (skM U r'.1)) r'.2 o).bind (fun r2 => some (1, dnZ r2.1 (r2.2 ++ [t]) u o))) else some ((1, (r'.1, r'.2, (u, o))) : Nat × Ys)) = some c → stZ U k f (.inr q, out, u, o) = some c := by
    intro c hc
    unfold stZ
    show (if mC U (.inr q) = some 91 then _ else if mWd U (.inr q) = wNot then _ else if mWd U (.inr q) = wAll then _ else (qsF U k f (skM U (.inr q)) out o).bind _) = some c
    rw [if_neg h1, if_neg h2, if_neg h3, hq]
    exact hc
  obtain ⟨s, out'⟩ := r'
  cases s with
  | inl e' =>
    have he : (.inl e' : Rdg) = .inl e := he
    cases he
    exact (redT rfl (e0 (1, (.inl e, out', u, o)) rfl)).F (ezf_inl rfl)
  | inr p =>
    obtain ⟨g1, g2⟩ := cf_of he
    obtain ⟨-, -, -, -, -, -, c, c7, c8⟩ := cf_yes g1
    have ha := aln c8
    have hs : sgQ (mC U (.inr p)) = none := by
      rw [c7]
      unfold sgQ
      rw [if_neg (fun z => ha.2.2.2.2.2.2.2.2.2.2.1 (Option.some.inj z)), if_neg (fun z => ha.2.2.2.2.2.2.2.2.2.2.2.2 (Option.some.inj z)), if_neg (fun z => ha.2.2.2.2.2.2.2.2.2.2.2.1 (Option.some.inj z))]
    have := redT (U := U) (k := k) (f := f) (z := (.inr q, out, u, o)) (c := (1, (.inl (1, skp U p.1), out', u, o))) rfl (e0 _ (by
      show (match sgQ (mC U (.inr p)) with | none => _ | some t => _) = _
      rw [hs]
      rfl))
    rw [g2]
    exact this.F (ezf_inl rfl)
theorem skM_cf {U : Tx} {q : Nat × Nat} (h : cfT U q = true) : cfT U (skp U q.1, tcN U q.1 q.2) = true := by
  unfold cfT at h ⊢
  show (Nat.blt (skp U (skp U q.1)) U.1 && cfl U (skp U (skp U q.1)) (tcN U (skp U q.1) (tcN U q.1 q.2))) = true
  rw [skp_id, tcN_id]; exact h
theorem fcX_e (U : Tx) (k n : Nat) (D : Lv) (s : Rdg) (out : List Nat) : fcX U k n D (s, out) = if wAt U s = wNot then (bif isOk (moS n (lkS U s)) then em 33 (D.1 (tWd U wNot (moS n (lkS U s)), out)) else (moS n (lkS U s), out)) else if lkC U s = some 91 then (bif isOk (moS n (lkS U s)) then onX (aSg U 93) (D.2.1 (tSg U 91 (moS n (lkS U s)), out)) else (moS n (lkS U s), out)) else if wAt U s = wAll then em 47 (tWd U wAll (lkS U s), out) else em (sgT U (smX U k n D (lkS U s, out)).1) (smX U k n D (onX (sgS U) (smX U k n D (lkS U s, out)))) := rfl
theorem em_1 (t : Nat) (x : Xs) : (em t x).1 = x.1 := rfl
theorem onX_e (f : Rdg → Rdg) (x : Xs) : onX f x = (f x.1, x.2) := rfl
theorem lk_l (U : Tx) (e : Nat × Nat) : lkS U (.inl e) = .inl e ∧ lkC U (.inl e) = none ∧ wAt U (.inl e) = [] := ⟨rfl, rfl, rfl⟩
theorem sgS_l (U : Tx) (e : Nat × Nat) : sgS U (.inl e) = .inl e := by
  unfold sgS aSg
  rw [(lk_l U e).2.1, (lk_l U e).1, if_neg (no_c _), if_neg (no_c _), if_neg (no_c _)]
  rfl
/-- two sums, the first one at fault -/
theorem sm_flt {U : Tx} {k n t : Nat} {D : Lv} {x : Xs} {e : Nat × Nat} (h : x.1 = .inl e) : (em t (smX U k n D (onX (sgS U) x))).1 = .inl e := by
  rw [em_1, onX_e, h, sgS_l, fl_sm]
theorem fl_fc {U : Tx} {k n : Nat} {D : Lv} (e : Nat × Nat) (out : List Nat) : (fcX U k n D (.inl e, out)).1 = .inl e := by
  rw [fcX_e, (lk_l U e).2.2, (lk_l U e).2.1, (lk_l U e).1, if_neg (by decide), if_neg (no_c _), if_neg (by decide)]
  exact sm_flt (fl_sm e out)
theorem fl_wo {U : Tx} {f : Xs → Xs} {w : List Nat} {t : Nat} (hw : w ≠ []) (m : Nat) {e : Nat × Nat} {x : Xs} (h : x.1 = .inl e) : (woL U f w t m x).1 = .inl e := by
  obtain ⟨s, out⟩ := x
  have h : s = .inl e := h
  subst h
  cases m with
  | zero => rfl
  | succ m =>
    show (if ([] : List Nat) = w then _ else ((.inl e : Rdg), out)).1 = _
    rw [if_neg (Ne.symm hw)]
theorem fl_bo {U : Tx} {k n : Nat} {D : Lv} (e : Nat × Nat) (out : List Nat) : (boX U k n D (.inl e, out)).1 = .inl e := by
  unfold boX
  exact fl_wo (by decide) _ (fl_fc _ _)
theorem fl_te {U : Tx} {k n : Nat} {D : Lv} (e : Nat × Nat) (out : List Nat) : (teX U k n D (.inl e, out)).1 = .inl e := by
  unfold teX
  exact fl_wo (by decide) _ (fl_bo _ _)
theorem lo_sq {e : Nat} (h : isLo e = true) : nSq e = true := by
  unfold isLo at h
  rw [Bool.or_eq_true] at h
  rcases h with h | h <;> (rw [Nat.eq_of_beq_eq_true h]; rfl)
theorem sq_p {pend u : List Nat} (hp : ∀ e, e ∈ pend → isLo e = true) : tkW nSq (pend ++ 1025 :: u) = pend ∧ drW nSq (pend ++ 1025 :: u) = 1025 :: u := by
  induction pend with
  | nil => exact ⟨rfl, rfl⟩
  | cons e pend ih =>
    have he := lo_sq (hp e List.mem_cons_self)
    have ih := ih (fun x hx => hp x (List.mem_cons_of_mem e hx))
    constructor
    · show (bif nSq e then e :: tkW nSq (pend ++ 1025 :: u) else []) = e :: pend; rw [he, ih.1]; rfl
    · show (bif nSq e then drW nSq (pend ++ 1025 :: u) else e :: (pend ++ 1025 :: u)) = 1025 :: u; rw [he, ih.2]; rfl
theorem redZLk {U : Tx} {k : Nat} {q p : Nat × Nat} (hI : Ivr U (.inr q)) (h : lkS U (.inr q) = .inr p) (r : List Nat × List Nat × Nat) : redZ U k (1, (.inr q, r)) (1, (.inr p, r)) := by
  have hc : cfT U q = false := by
    cases hz : cfT U q with
    | false => rfl
    | true => rw [(cf_yes hz).1] at h; cases h
  rw [(cf_no hI hc).1] at h
  have es : stU U (.inr p, r) = stU U (.inr q, r) := by
    rw [← h]
    unfold stU
    simp only [(skM_i U _).1, (skM_i U _).2.1, (skM_i U _).2.2.1]
  rintro r' ⟨f, hf⟩
  refine ⟨f, ?_⟩
  cases f with
  | zero => cases hf
  | succ f =>
    have e1 : runZ U k (f + 1) (1, (.inr q, r)) = runZ U k f (stU U (.inr q, r)) := by
      show (if isOk (.inr q) = false ∨ (1 : Nat) = 2 then _ else if (1 : Nat) = 0 then _ else _) = _
      rw [if_neg (by intro z; rcases z with z | z <;> cases z), if_neg (show ¬ (1 : Nat) = 0 by decide)]
    have e2 : runZ U k (f + 1) (1, (.inr p, r)) = runZ U k f (stU U (.inr p, r)) := by
      show (if isOk (.inr p) = false ∨ (1 : Nat) = 2 then _ else if (1 : Nat) = 0 then _ else _) = _
      rw [if_neg (by intro z; rcases z with z | z <;> cases z), if_neg (show ¬ (1 : Nat) = 0 by decide)]
    rw [e1, ← es, ← e2]
    exact hf
theorem fact_ok {U : Tx} {k n : Nat} {D : Lv} (hS : SuK U k n (smX U k n D)) (hA : n ≠ 0 → FaK U k (n - 1) D.1) (hE : n ≠ 0 → TeK U k (n - 1) D.2.1) : FaK U k n (fcX U k n D) := by
  intro q out u o ho hI
  have hupq := skp_up U q.1
  cases hcf : cfT U q with
  | true =>
    obtain ⟨c1, c2, c3, c4, c5, c6, c, c7, c8⟩ := cf_yes hcf
    have e : (fcX U k n D (.inr q, out)).1 = .inl (1, skp U q.1) := by
      rw [fcX_e, c3, c2, if_neg (by decide), if_neg (no_c _), if_neg (by decide), c1]
      exact sm_flt (fl_sm _ _)
    unfold FaG
    rw [e]
    have hc2 := skM_cf hcf
    obtain ⟨y, ⟨f, hf⟩, he⟩ := cf_A (k := k) hc2 (out, [], o)
    rw [show skp U (skp U q.1, tcN U q.1 q.2).1 = skp U q.1 from skp_id U q.1] at he
    exact fs_flt (f := f) (r' := (y.1, y.2.1 ++ y.2.2.1)) (by rw [c7]; exact fun z => (aln c8).2.2.2.2.2.2.2.1 (Option.some.inj z)) (by rw [c5]; decide) (by rw [c5]; decide) (by unfold qsF; show (runY U k f (0, (.inr (skp U q.1, tcN U q.1 q.2), out, [], o))).map _ = _; rw [hf]; rfl) he
  | false =>
    obtain ⟨c1, c2, c3, c4⟩ := cf_no hI hcf
    have hs1 : skM U (.inr q) = .inr (skp U q.1, tcN U q.1 q.2) := rfl
    have hI1 := Ivr_lk hI
    rw [c1, hs1] at hI1
    rw [hs1] at c1
    have l1 : lkS U (.inr (skp U q.1, tcN U q.1 q.2)) = .inr (skp U q.1, tcN U q.1 q.2) := by rw [← c1, lkS_i]
    have l2 : lkC U (.inr (skp U q.1, tcN U q.1 q.2)) = lkC U (.inr q) := by rw [← c1, lkC_i]
    generalize hp : (skp U q.1, tcN U q.1 q.2) = p at *
    have hup : q.1 ≤ p.1 := by rw [← hp]; exact hupq
    have hwp : wAt U (.inr p) = wAt U (.inr q) := by rw [← c1, wAt_i]
    have eZ : ∀ f, stZ U k f (.inr q, out, u, o) = if lkC U (.inr q) = some 91 then some (0, onY (adv 1 0) (qOpY 1025 (.inr p, (out, u, o)))) else if wAt U (.inr q) = wNot then some (0, onY (adv 3 1) (qOpY 33 (.inr p, (out, u, o)))) else if wAt U (.inr q) = wAll then some (1, dnZ (adv 3 1 (.inr p)) (out ++ [47]) u o) else (qsF U k f (.inr p) out o).bind (fun r => bif isOk r.1 then (match sgQ (mC U r.1) with | none => some (1, (flA 1 0 (skM U r.1), r.2, (u, o))) | some t => (qsF U k f (adv 1 0 (skM U r.1)) r.2 o).bind (fun r2 => some (1, dnZ r2.1 (r2.2 ++ [t]) u o))) else some (1, (r.1, r.2, (u, o)))) := by
      intro f
      rw [c2, c3]
      unfold stZ
      rw [hs1]
      rfl
    rw [fcX_e]
    rw [c1]
    have wd : ∀ w', wAt U (.inr q) = w' → w' ≠ [] → Ivr U (.inr (p.1 + w'.length, 1)) ∧ tWd U w' (.inr p) = .inr (p.1 + w'.length, 1) ∧ 0 < w'.length ∧ lkC U (.inr q) ≠ some 91 := by
      intro w' hw' hne
      obtain ⟨p', g1, g2, g3, g4⟩ := Ivr_wd hI hw' hne
      rw [c1] at g1
      cases g1
      refine ⟨g4, by rw [tWd_y (hwp.trans hw'), l1]; rfl, g3, fun z => ?_⟩
      rw [wAt_of z c1] at hw'
      obtain ⟨a, tc, e1, -, e3, -⟩ := lk_some z
      rw [c1] at e1
      cases e1
      have := wrd_e (T := U) (a := a) (Or.inr (by rw [e3]; rfl))
      rw [hw'] at this
      exact hne this
    by_cases hnot : wAt U (.inr q) = wNot
    · obtain ⟨g1, g2, g3, g4⟩ := wd wNot hnot (by decide)
      rw [if_pos hnot]
      have r0 : redZ U k (0, (.inr q, out, u, o)) (0, onY (adv 3 1) (qOpY 33 (.inr p, (out, u, o)))) := redT (f := 0) rfl (by rw [eZ, if_neg g4, if_pos hnot])
      by_cases hn : n = 0
      · have e1 : moS n (.inr p) = .inl (4, p.1) := by unfold moS; rw [if_pos hn]; rfl
        rw [e1]
        have e2 : (0, onY (adv 3 1) (qOpY 33 (.inr p, (out, u, o)))) = ((0, ((.inl (4, p.1) : Rdg), out, u, o)) : Nat × Ys) := by
          unfold qOpY
          show (0, onY (adv 3 1) (if o = 6 then ((.inl (4, p.1) : Rdg), (out, u, o)) else _)) = _
          rw [if_pos (by omega)]
          rfl
        rw [e2] at r0
        exact r0.F (ezf_inl rfl)
      · have e1 : moS n (.inr p) = .inr p := by unfold moS; rw [if_neg hn]
        rw [e1, g2]
        have e2 : (0, onY (adv 3 1) (qOpY 33 (.inr p, (out, u, o)))) = ((0, ((.inr (p.1 + 3, 1) : Rdg), out, 33 :: u, o + 1)) : Nat × Ys) := by
          unfold qOpY
          show (0, onY (adv 3 1) (if o = 6 then _ else ((.inr p : Rdg), out, 33 :: u, o + 1))) = _
          rw [if_neg (by omega)]
          rfl
        rw [e2] at r0
        have P1 := hA hn (p.1 + 3, 1) out (33 :: u) (o + 1) (by omega) g1
        show FaG U k (4 + 3 * n) q out u o (em 33 (D.1 (.inr (p.1 + 3, 1), out)))
        generalize hx1 : D.1 (.inr (p.1 + 3, 1), out) = x1 at *
        obtain ⟨s1, out1⟩ := x1
        cases s1 with
        | inl e => exact r0.F P1
        | inr p3 =>
          obtain ⟨j1, ⟨cs1, m1, m2, m3⟩, j3⟩ := P1
          have m1 : out1 = out ++ cs1 := m1
          have m2 : cs1.length + (p.1 + 3) ≤ p3.1 := m2
          refine ⟨j1, ⟨cs1 ++ [33], ?_, ?_, ?_⟩, r0.tr ?_⟩
          · show out1 ++ [33] = _; rw [m1, List.append_assoc]
          · rw [List.length_append]; show cs1.length + 1 + q.1 ≤ p3.1; omega
          · exact (m3.one (fun st => ty_not st)).up (by omega)
          · have j3 : redZ U k (0, (.inr (p.1 + 3, 1), out, 33 :: u, o + 1)) (1, dnZ (.inr p3) out1 (33 :: u) (o + 1)) := j3
            rw [dnZ_of] at j3
            exact j3
    · rw [if_neg hnot]
      by_cases h91 : lkC U (.inr q) = some 91
      · rw [if_pos h91]
        have r0 : redZ U k (0, (.inr q, out, u, o)) (0, onY (adv 1 0) (qOpY 1025 (.inr p, (out, u, o)))) := redT (f := 0) rfl (by rw [eZ, if_pos h91])
        obtain ⟨p', g1, g2, g3, g4⟩ := Ivr_sg h91
        rw [c1] at g1
        cases g1
        by_cases hn : n = 0
        · have e1 : moS n (.inr p) = .inl (4, p.1) := by unfold moS; rw [if_pos hn]; rfl
          rw [e1]
          have e2 : (0, onY (adv 1 0) (qOpY 1025 (.inr p, (out, u, o)))) = ((0, ((.inl (4, p.1) : Rdg), out, u, o)) : Nat × Ys) := by
            unfold qOpY
            show (0, onY (adv 1 0) (if o = 6 then ((.inl (4, p.1) : Rdg), (out, u, o)) else _)) = _
            rw [if_pos (by omega)]
            rfl
          rw [e2] at r0
          exact r0.F (ezf_inl rfl)
        · have e1 : moS n (.inr p) = .inr p := by unfold moS; rw [if_neg hn]
          rw [e1]
          have e2 : (0, onY (adv 1 0) (qOpY 1025 (.inr p, (out, u, o)))) = ((0, ((.inr (p.1 + 1, 0) : Rdg), out, 1025 :: u, o + 1)) : Nat × Ys) := by
            unfold qOpY
            show (0, onY (adv 1 0) (if o = 6 then _ else ((.inr p : Rdg), out, 1025 :: u, o + 1))) = _
            rw [if_neg (by omega)]
            rfl
          rw [e2] at r0
          have e3 : tSg U 91 (.inr p) = .inr (p.1 + 1, 0) := by rw [tSg_y (l2.trans h91), l1]; rfl
          show FaG U k (4 + 3 * n) q out u o (onX (aSg U 93) (D.2.1 (tSg U 91 (.inr p), out)))
          rw [e3]
          have P1 := hE hn (p.1 + 1, 0) out (1025 :: u) (o + 1) (by omega) g4 (fun e r z => by cases z; exact ⟨rfl, by decide⟩)
          generalize hx1 : D.2.1 (.inr (p.1 + 1, 0), out) = x1 at *
          obtain ⟨s1, out1⟩ := x1
          cases s1 with
          | inl e => exact r0.F P1
          | inr p3 =>
            obtain ⟨j1, j2, j3, ⟨cs1, m1, m2, m3⟩, pend, out2, m4, m5, j4⟩ := P1
            have m4 : out1 = out2 ++ pend := m4
            have m2 : cs1.length + (p.1 + 1) ≤ p3.1 := m2
            obtain ⟨k1, k2⟩ := looked j1 j2
            have hcf3 : cfT U p3 = false := by
              cases hz : cfT U p3 with
              | false => rfl
              | true => rw [(cf_yes hz).1] at j2; cases j2
            have k3 := (cf_no j1 hcf3).2.2.1
            obtain ⟨o1, o2⟩ := sq_p (u := u) m5
            have hmem : (1025 : Nat) ∈ pend ++ 1025 :: u := List.mem_append_right _ List.mem_cons_self
            by_cases h93 : lkC U (.inr p3) = some 93
            · have e4 : aSg U 93 (.inr p3) = .inr (p3.1 + 1, 0) := by unfold aSg; rw [if_pos h93, j2]; rfl
              show FaG U k (4 + 3 * n) q out u o (aSg U 93 (.inr p3), out1)
              rw [e4]
              obtain ⟨p5, f1, -, f3, f4⟩ := Ivr_sg h93
              rw [j2] at f1
              cases f1
              refine ⟨f4, ⟨cs1, m1, by show cs1.length + q.1 ≤ p3.1 + 1; omega, m3.up (by omega)⟩, r0.tr (j4.tr ((redU rfl).tr ?_))⟩
              have e5 : stU U (.inr p3, out2, pend ++ 1025 :: u, o + 1) = (1, dnZ (.inr (p3.1 + 1, 0)) out1 u o) := by
                unfold stU
                show (if mC U (.inr p3) = some 93 ∧ (1025 : Nat) ∈ pend ++ 1025 :: u then (1, dnZ (adv 1 0 (skM U (.inr p3))) (out2 ++ tkW nSq (pend ++ 1025 :: u)) ((drW nSq (pend ++ 1025 :: u)).tail) (o + 1 - 1)) else _) = _
                rw [k2, if_pos ⟨h93, hmem⟩, k1, o1, o2, ← m4]
                rfl
              rw [e5]
              exact redZ.rf _ _ _
            · have e4 : aSg U 93 (.inr p3) = .inl (1, p3.1) := by unfold aSg; rw [if_neg h93, j2]; rfl
              show FaG U k (4 + 3 * n) q out u o (aSg U 93 (.inr p3), out1)
              rw [e4]
              refine r0.F (j4.F ((redU rfl).F ?_))
              have e5 : stU U (.inr p3, out2, pend ++ 1025 :: u, o + 1) = (2, (.inl (1, p3.1), out2, pend ++ 1025 :: u, o + 1)) := by
                unfold stU
                show (if mC U (.inr p3) = some 93 ∧ _ then _ else if mWd U (.inr p3) = wAnd then _ else if mWd U (.inr p3) = wOr then _ else if (1025 : Nat) ∈ pend ++ 1025 :: u then (2, (flA 1 0 (skM U (.inr p3)), (out2, pend ++ 1025 :: u, o + 1))) else _) = _
                rw [k2, if_neg (fun z => h93 z.1), ← k3, if_neg (j3 wAnd List.mem_cons_self), if_neg (j3 wOr (List.mem_cons_of_mem _ List.mem_cons_self)), if_pos hmem, k1]
                rfl
              rw [e5]
              exact ezf_inl rfl
      · rw [if_neg h91]
        by_cases hall : wAt U (.inr q) = wAll
        · obtain ⟨g1, g2, g3, g4⟩ := wd wAll hall (by decide)
          rw [if_pos hall, g2]
          have r0 : redZ U k (0, (.inr q, out, u, o)) (1, dnZ (adv 3 1 (.inr p)) (out ++ [47]) u o) := redT (f := 0) rfl (by rw [eZ, if_neg h91, if_neg hnot, if_pos hall])
          exact ⟨g1, ⟨[47], rfl, by show 1 + q.1 ≤ p.1 + 3; omega, (Tyk.lay (fun st hs => ty_all st hs)).up (by omega)⟩, r0⟩
        · rw [if_neg hall]
          have hm1 : mC U (.inr q) ≠ some 91 := by rw [← c2]; exact h91
          have hm2 : mWd U (.inr q) ≠ wNot := by rw [← c3]; exact hnot
          have hm3 : mWd U (.inr q) ≠ wAll := by rw [← c3]; exact hall
          have S1 := hS p out [] o ho hI1 (fun e r z => by cases z)
          have Q1 := qs_ok (n := n) S1
          generalize hx1 : smX U k n D (.inr p, out) = x1 at *
          obtain ⟨s1, out1⟩ := x1
          cases s1 with
          | inl e =>
            obtain ⟨f, r', q1, q2⟩ := Q1
            have e1 : (em (sgT U ((.inl e : Rdg), out1).1) (smX U k n D (onX (sgS U) ((.inl e : Rdg), out1)))).1 = .inl e := sm_flt rfl
            unfold FaG
            rw [e1]
            exact fs_flt hm1 hm2 hm3 (by rw [hs1]; exact q1) q2
          | inr p1 =>
            obtain ⟨f1, q1⟩ := Q1
            obtain ⟨i1, i2, i3, ⟨cs1, m1, m2, m3⟩, -⟩ := S1
            obtain ⟨k1, k2⟩ := looked i1 i2
            have m1 : out1 = out ++ cs1 := m1
            have m2 : cs1.length + p.1 ≤ p1.1 := m2
            rw [onX_e]
            show FaG U k (4 + 3 * n) q out u o (em (sgT U (.inr p1)) (smX U k n D (sgS U (.inr p1), out1)))
            cases hsg : sgQ (lkC U (.inr p1)) with
            | none =>
              -- no sign
              have n1 : ¬ lkC U (.inr p1) = some 60 := fun z => by rw [z] at hsg; cases hsg
              have n2 : ¬ lkC U (.inr p1) = some 62 := fun z => by rw [z] at hsg; cases hsg
              have n3 : ¬ lkC U (.inr p1) = some 61 := fun z => by rw [z] at hsg; cases hsg
              have es : sgS U (.inr p1) = .inl (1, p1.1) := by unfold sgS aSg; rw [if_neg n1, if_neg n2, if_neg n3, i2]; rfl
              have e1 : (em (sgT U (.inr p1)) (smX U k n D (sgS U (.inr p1), out1))).1 = .inl (1, p1.1) := by rw [es, em_1, fl_sm]
              unfold FaG
              rw [e1]
              refine (redT (f := f1) (c := (1, (.inl (1, p1.1), out1, u, o))) rfl ?_).F (ezf_inl rfl)
              rw [eZ, if_neg h91, if_neg hnot, if_neg hall, q1]
              show (match sgQ (mC U (.inr p1)) with | none => some (1, (flA 1 0 (skM U (.inr p1)), out1, (u, o))) | some t => _) = _
              rw [k2, hsg, k1]
              rfl
            | some t =>
              have hc : (lkC U (.inr p1) = some 60 ∧ t = 40) ∨ (lkC U (.inr p1) = some 62 ∧ t = 41) ∨ (lkC U (.inr p1) = some 61 ∧ t = 42) := by
                unfold sgQ at hsg
                split at hsg
                · cases hsg; exact Or.inl ⟨by assumption, rfl⟩
                · split at hsg
                  · cases hsg; exact Or.inr (Or.inl ⟨by assumption, rfl⟩)
                  · split at hsg
                    · cases hsg; exact Or.inr (Or.inr ⟨by assumption, rfl⟩)
                    · cases hsg
              have hcs : ∃ c, lkC U (.inr p1) = some c := by rcases hc with z | z | z <;> exact ⟨_, z.1⟩
              obtain ⟨cc1, hcc⟩ := hcs
              obtain ⟨p5, g1, -, g3, g4⟩ := Ivr_sg hcc
              rw [i2] at g1
              cases g1
              have es : sgS U (.inr p1) = .inr (p1.1 + 1, 0) ∧ sgT U (.inr p1) = t := by
                unfold sgS sgT aSg
                rcases hc with ⟨z, rfl⟩ | ⟨z, rfl⟩ | ⟨z, rfl⟩
                · rw [if_pos z, if_pos z, i2]; exact ⟨rfl, rfl⟩
                · rw [z, if_neg (by decide), if_pos rfl, if_neg (by decide), if_pos rfl, i2]; exact ⟨rfl, rfl⟩
                · rw [z, if_neg (by decide), if_neg (by decide), if_pos rfl, if_neg (by decide), if_neg (by decide), i2]; exact ⟨rfl, rfl⟩
              rw [es.1, es.2]
              have S2 := hS (p1.1 + 1, 0) out1 [] o ho g4 (fun e r z => by cases z)
              have Q2 := qs_ok (n := n) S2
              generalize hx2 : smX U k n D (.inr (p1.1 + 1, 0), out1) = x2 at *
              obtain ⟨s2, out2⟩ := x2
              have eW : ∀ f2 (r2 : Xs), qsF U k f2 (.inr (p1.1 + 1, 0)) out1 o = some r2 → redZ U k (0, (.inr q, out, u, o)) (1, dnZ r2.1 (r2.2 ++ [t]) u o) := by
                intro f2 r2 q2
                refine redT (f := f1 + f2) rfl ?_
                rw [eZ, if_neg h91, if_neg hnot, if_neg hall, qsF_up q1 (Nat.le_add_right f1 f2)]
                show (match sgQ (mC U (.inr p1)) with | none => _ | some t => (qsF U k (f1 + f2) (adv 1 0 (skM U (.inr p1))) out1 o).bind (fun r2 => some (1, dnZ r2.1 (r2.2 ++ [t]) u o))) = _
                rw [k2, hsg, k1]
                show (qsF U k (f1 + f2) (.inr (p1.1 + 1, 0)) out1 o).bind (fun r2 => some (1, dnZ r2.1 (r2.2 ++ [t]) u o)) = _
                rw [qsF_up q2 (Nat.le_add_left f2 f1)]
                rfl
              cases s2 with
              | inl e =>
                obtain ⟨f2, r', q2, q3⟩ := Q2
                refine (eW f2 r' q2).F ?_
                obtain ⟨s3, out3⟩ := r'
                cases s3 with
                | inl e' =>
                  have q3 : (.inl e' : Rdg) = .inl e := q3
                  cases q3
                  exact ezf_inl (dnZ_s _ _ _ _)
                | inr p3 =>
                  obtain ⟨z1, z2⟩ := cf_of q3
                  rw [z2]
                  have hd := dnZ_s (.inr p3) u (out3 ++ [t]) o
                  show EZF U k (1, dnZ (.inr p3) (out3 ++ [t]) u o) (1, skp U p3.1)
                  obtain ⟨d1, d2⟩ : ∃ d2, dnZ (.inr p3) (out3 ++ [t]) u o = (.inr p3, d2) := ⟨(dnZ (.inr p3) (out3 ++ [t]) u o).2, Prod.ext hd rfl⟩
                  rw [d2]
                  exact cf_U z1 d1
              | inr p2 =>
                obtain ⟨f2, q2⟩ := Q2
                obtain ⟨i4, i5, i6, ⟨cs2, n1, n2, n3⟩, -⟩ := S2
                have n1 : out2 = out1 ++ cs2 := n1
                have n2 : cs2.length + (p1.1 + 1) ≤ p2.1 := n2
                refine ⟨i4, ⟨cs1 ++ cs2 ++ [t], ?_, ?_, ?_⟩, eW f2 (.inr p2, out2) q2⟩
                · show out2 ++ [t] = _; rw [n1, m1]; simp only [List.append_assoc]
                · simp only [List.length_append, List.length_cons, List.length_nil]; omega
                · exact (Tyk.two (t := t) (z := true) m3 n3 (fun st => ty_cmp (by omega) st)).up (by omega)
