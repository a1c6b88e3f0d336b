/-! A formula read: from above down and with a pile come to the same; parts, products, sums. -/
theorem qeY_of {p : Nat × Nat} {out w : List Nat} {e o : Nat} (h : e = 34 ∨ e = 35) : qeY (.inr p) out (e :: w) (o + 1) = qeY (.inr p) (out ++ [e]) w o := by
  show (if (e = 34 ∨ e = 35) ∧ isOk (.inr p) = true then qeY (.inr p) (out ++ [e]) w (o + 1 - 1) else _) = _
  rw [if_pos ⟨h, rfl⟩]
  rfl
theorem qeY_n {s : Rdg} {out w : List Nat} {o : Nat} (h : ∀ e r, w = e :: r → e ≠ 34 ∧ e ≠ 35) : qeY s out w o = (s, out, w, o) := by
  cases w with
  | nil => rfl
  | cons e w =>
    show (if (e = 34 ∨ e = 35) ∧ isOk s = true then _ else _) = _
    have := h e w rfl
    rw [if_neg (fun z => by omega)]
theorem qeY_l (e : Nat × Nat) (out w : List Nat) (o : Nat) : (qeY (.inl e) out w o).1 = .inl e := by
  cases w with
  | nil => rfl
  | cons a w =>
    show (if (a = 34 ∨ a = 35) ∧ isOk (.inl e) = true then _ else ((.inl e : Rdg), out, a :: w, o)).1 = _
    rw [if_neg (fun z => by cases z.2)]
theorem ofR_e (k : Nat) (w : List Nat) : ofR k w = if k = 4 ∧ w = wKnows then some 34 else if k = 4 ∧ w = wReady then some 35 else none := rfl
/-- of two: behind the word -/
theorem pair_ok {U : Tx} {k n t b : Nat} {D : Lv} {q q0 : Nat × Nat} {out w : List Nat} {o : Nat} (hb : (b = 1021 ∧ t = 45) ∨ (b = 1022 ∧ t = 46)) (hD : n ≠ 0 → SuK U k (n - 1) D.2.2.1) (hF : ∀ e out, (D.2.2.1 (.inl e, out)).1 = .inl e) (ho : o + n = 6) (hI : Ivr U (.inr q)) (hq0 : q0.1 ≤ q.1) (hr : redY U k (0, (.inr q0, out, w, o)) (stM U b (.inr q, out, w, o))) :
    PaG U k (1 + 3 * n) q0 out w o (paX U n D t (.inr q, out)) := by
  unfold paX
  show PaG U k (1 + 3 * n) q0 out w o (if lkC U (.inr q) = some 40 then _ else (flA 1 0 (lkS U (.inr q)), out))
  cases hcf : cfT U q with
  | true =>
    obtain ⟨c1, c2, -, -, -, -, c, c7, c8⟩ := cf_yes hcf
    rw [c2, if_neg (by intro z; cases z), c1]
    refine hr.F ?_
    have e : stM U b (.inr q, out, w, o) = (0, (.inl (1, skp U q.1), out, w, o)) := by
      unfold stM
      show (0, onY (mAs U 40) (if mC U (.inr q) = some 40 then qOpY b (skM U (.inr q), (out, w, o)) else (skM U (.inr q), (out, w, o)))) = _
      have hne : ¬ mC U (.inr q) = some 40 := by rw [c7]; exact fun z => (aln c8).1 (Option.some.inj z)
      rw [if_neg hne]
      show (0, (mAs U 40 (skM U (.inr q)), (out, w, o))) = _
      unfold mAs
      rw [(skM_i U _).2.1, if_neg hne, (skM_i U _).1]
      rfl
    rw [e]
    exact endF_inl rfl
  | false =>
    obtain ⟨c1, c2, -, -⟩ := cf_no hI hcf
    by_cases h40 : lkC U (.inr q) = some 40
    · rw [if_pos h40]
      obtain ⟨p, g1, g2, g3, g4⟩ := Ivr_sg h40
      rw [g1]
      rw [c1] at g1
      rw [c2] at h40
      by_cases hn : n = 0
      · have e1 : moS n (.inr p) = .inl (4, p.1) := by unfold moS; rw [if_pos hn]; rfl
        rw [e1]
        refine hr.F ?_
        have e : stM U b (.inr q, out, w, o) = (0, (.inl (4, p.1), out, w, o)) := by
          unfold stM
          show (0, onY (mAs U 40) (if mC U (.inr q) = some 40 then qOpY b (skM U (.inr q), (out, w, o)) else _)) = _
          rw [if_pos h40, g1]
          unfold qOpY
          show (0, onY (mAs U 40) (if o = 6 then (.inl (4, p.1), (out, w, o)) else _)) = _
          rw [if_pos (by omega)]
          rfl
        rw [e]
        exact endF_inl rfl
      · have e1 : moS n (.inr p) = .inr p := by unfold moS; rw [if_neg hn]
        rw [e1]
        show PaG U k (1 + 3 * n) q0 out w o (em t (onX (aSg U 41) (D.2.2.1 (onX (aSg U 44) (D.2.2.1 (tSg U 40 (.inr p), out))))))
        have l1 : lkS U (.inr p) = .inr p := by rw [← g1, ← c1, lkS_i]
        have l2 : lkC U (.inr p) = some 40 := by rw [← g1, ← c1, lkC_i, c2]; exact h40
        have e2 : tSg U 40 (.inr p) = .inr (p.1 + 1, 0) := by rw [tSg_y l2, l1]; rfl
        rw [e2]
        have e : stM U b (.inr q, out, w, o) = (0, (.inr (p.1 + 1, 0), out, b :: w, o + 1)) := by
          unfold stM
          show (0, onY (mAs U 40) (if mC U (.inr q) = some 40 then qOpY b (skM U (.inr q), (out, w, o)) else _)) = _
          rw [if_pos h40, g1]
          unfold qOpY
          show (0, onY (mAs U 40) (if o = 6 then _ else (.inr p, out, b :: w, o + 1))) = _
          rw [if_neg (by omega)]
          show (0, (mAs U 40 (.inr p), out, b :: w, o + 1)) = _
          have hm := looked (U := U) (p := p) (by have := Ivr_lk hI; rw [c1, g1] at this; exact this) l1
          unfold mAs
          rw [hm.2, l2, if_pos rfl, hm.1]
          rfl
        rw [e] at hr
        have hbr : b = 1021 ∨ b = 1022 := by omega
        have S1 := hD hn (p.1 + 1, 0) out (b :: w) (o + 1) (by omega) g4 (fun e r z => by cases z; rcases hbr with rfl | rfl <;> exact ⟨rfl, by decide, by decide⟩)
        have C1 := comma_ok hbr S1
        generalize hx1 : D.2.2.1 (.inr (p.1 + 1, 0), out) = x1 at *
        obtain ⟨s1, out1⟩ := x1
        show PaG U k (1 + 3 * n) q0 out w o (em t (onX (aSg U 41) (D.2.2.1 (aSg U 44 s1, out1))))
        cases hs44 : aSg U 44 s1 with
        | inl e =>
          have C1 : match aSg U 44 s1 with | .inl e => EndF U k (0, (.inr (p.1 + 1, 0), out, b :: w, o + 1)) e | .inr p2 => _ := C1
          rw [hs44] at C1
          have hz : (em t (onX (aSg U 41) (D.2.2.1 (.inl e, out1)))).1 = .inl e := by
            show aSg U 41 (D.2.2.1 (.inl e, out1)).1 = .inl e
            rw [hF]; rfl
          unfold PaG
          rw [hz]
          exact hr.F C1
        | inr p2 =>
          have C1 : match aSg U 44 s1 with | .inl e => EndF U k (0, (.inr (p.1 + 1, 0), out, b :: w, o + 1)) e | .inr p2 => ∃ p0, s1 = .inr p0 ∧ p2 = (p0.1 + 1, 0) ∧ Ivr U (.inr p2) ∧ redY U k (0, (.inr (p.1 + 1, 0), out, b :: w, o + 1)) (0, (.inr p2, out1, (b + 2) :: w, o + 1)) := C1
          rw [hs44] at C1
          obtain ⟨p0, k1, k2, k3, k4⟩ := C1
          subst k1
          obtain ⟨-, -, -, ⟨cs1, m1, m2, m3⟩, -⟩ := S1
          have hbr2 : b + 2 = 1020 ∨ b + 2 = 1023 ∨ b + 2 = 1024 := by omega
          have S2 := hD hn p2 out1 ((b + 2) :: w) (o + 1) (by omega) k3 (fun e r z => by cases z; rcases hbr with rfl | rfl <;> exact ⟨rfl, by decide, by decide⟩)
          have C2 := close_ok hbr2 S2
          generalize hx2 : D.2.2.1 (.inr p2, out1) = x2 at *
          obtain ⟨s2, out2⟩ := x2
          show PaG U k (1 + 3 * n) q0 out w o (aSg U 41 s2, out2 ++ [t])
          have C2 : match aSg U 41 s2 with | .inl e => EndF U k (0, (.inr p2, out1, (b + 2) :: w, o + 1)) e | .inr p3 => ∃ p4, s2 = .inr p4 ∧ p3 = (p4.1 + 1, 0) ∧ Ivr U (.inr p3) ∧ redY U k (0, (.inr p2, out1, (b + 2) :: w, o + 1)) (1, qeY (.inr p3) (out2 ++ (if b + 2 = 1020 then [] else if b + 2 = 1023 then [45] else [46])) w o) := C2
          cases hs41 : aSg U 41 s2 with
          | inl e =>
            rw [hs41] at C2
            exact hr.F (k4.F C2)
          | inr p3 =>
            rw [hs41] at C2
            obtain ⟨p4, j1, j2, j3, j4⟩ := C2
            subst j1
            obtain ⟨-, -, -, ⟨cs2, n1, n2, n3⟩, -⟩ := S2
            have hcode : (if b + 2 = 1020 then [] else if b + 2 = 1023 then [45] else [46]) = [t] := by
              rcases hb with ⟨rfl, rfl⟩ | ⟨rfl, rfl⟩ <;> rfl
            rw [hcode] at j4
            have m1 : out1 = out ++ cs1 := m1
            have n1 : out2 = out1 ++ cs2 := n1
            have m2 : cs1.length + (p.1 + 1) ≤ p0.1 := m2
            have n2 : cs2.length + p2.1 ≤ p4.1 := n2
            refine ⟨j3, ⟨cs1 ++ cs2 ++ [t], ?_, ?_, ?_⟩, hr.tr (k4.tr j4)⟩
            · show out2 ++ [t] = _
              rw [n1, m1]; simp only [List.append_assoc]
            · rw [j2, k2] at *
              simp only [List.length_append, List.length_cons, List.length_nil]
              have n2 : cs2.length + (p0.1 + 1) ≤ p4.1 := n2
              show _ ≤ p4.1 + 1
              omega
            · have ty := Tyk.two (t := t) (z := false) m3 n3 (fun st => ty_ar (by omega) st)
              exact ty.up (by omega)
    · rw [if_neg h40, c1]
      refine hr.F ?_
      have e : stM U b (.inr q, out, w, o) = (0, (flA 1 0 (skM U (.inr q)), out, w, o)) := by
        unfold stM
        rw [c2] at h40
        show (0, onY (mAs U 40) (if mC U (.inr q) = some 40 then qOpY b (skM U (.inr q), (out, w, o)) else (skM U (.inr q), (out, w, o)))) = _
        rw [if_neg h40]
        show (0, (mAs U 40 (skM U (.inr q)), (out, w, o))) = _
        unfold mAs
        rw [(skM_i U _).2.1, if_neg h40, (skM_i U _).1]
      rw [e]
      exact endF_inl rfl
/-- a part -/
theorem part_ok {U : Tx} {k n : Nat} {D : Lv} (hT : TxW U) (hk5 : k < 5) (hS : n ≠ 0 → SuK U k (n - 1) D.2.2.1) (hF : ∀ e out, (D.2.2.1 (.inl e, out)).1 = .inl e) (hP : n ≠ 0 → PaK U k (n - 1) D.2.2.2) : PaK U k n (parX U k n D) := by
  intro q out w o ho hI
  cases hcf : cfT U q with
  | true =>
    obtain ⟨c1, c2, c3, c4, c5, c6, c, c7, c8⟩ := cf_yes hcf
    have e : parX U k n D (.inr q, out) = (.inl (1, skp U q.1), out) := by
      unfold parX
      show (bif dgI (lkV (lkC U (.inr q))) then _ else if lkC U (.inr q) = some 40 then _ else if wAt U (.inr q) = wMin then _ else if wAt U (.inr q) = wMax then _ else if k = 4 ∧ wAt U (.inr q) = wKnows then _ else if k = 4 ∧ wAt U (.inr q) = wReady then _ else match sgF k (wAt U (.inr q)) with | some i => (adv (wAt U (.inr q)).length 1 (lkS U (.inr q)), out ++ [i]) | none => (flA 1 0 (lkS U (.inr q)), out)) = _
      rw [c2, show dgI (lkV none) = false from by decide, if_neg (by intro z; cases z), c3, if_neg (by decide), if_neg (by decide), if_neg (fun z => absurd z.2 (by decide)), if_neg (fun z => absurd z.2 (by decide))]
      have g : sgF k [] = none := by
        unfold sgF
        rw [if_neg (by decide), if_neg (fun z => absurd z.2 (by decide)), if_neg (fun z => absurd z.2 (by decide)), if_neg (fun z => absurd z.2 (by decide)), if_neg (fun z => absurd z.2 (by decide)), if_neg (fun z => absurd z.2 (by decide)), if_neg (fun z => absurd z.2 (by decide)), if_neg (fun z => absurd z.2 (by decide)), if_neg (fun z => absurd z.2 (by decide))]
      rw [g, c1]
      rfl
    rw [e]
    exact cf_A hcf _
  | false =>
    obtain ⟨c1, c2, c3, c4⟩ := cf_no hI hcf
    have hs1 : skM U (.inr q) = .inr (skp U q.1, tcN U q.1 q.2) := rfl
    have hI1 := Ivr_lk hI
    rw [c1, hs1] at hI1
    rw [hs1] at c1
    have l1 : lkS U (.inr (skp U q.1, tcN U q.1 q.2)) = .inr (skp U q.1, tcN U q.1 q.2) := by rw [← c1, lkS_i]
    have l2 : lkC U (.inr (skp U q.1, tcN U q.1 q.2)) = lkC U (.inr q) := by rw [← c1, lkC_i]
    have hup := skp_up U q.1
    generalize hp : (skp U q.1, tcN U q.1 q.2) = p at *
    have hup : q.1 ≤ p.1 := by rw [← hp]; exact hup
    have eA : stA U k (.inr q, out, w, o) = if mC U (.inr q) = some 40 then (0, onY (adv 1 0) (qOpY 1020 (.inr p, (out, w, o)))) else if mWd U (.inr q) = wMin then stM U 1021 (adv 3 1 (.inr p), (out, w, o)) else if mWd U (.inr q) = wMax then stM U 1022 (adv 3 1 (.inr p), (out, w, o)) else match ofR k (mWd U (.inr q)) with | some e => (0, onY (adv (mWd U (.inr q)).length 1) (qOpY e (.inr p, (out, w, o)))) | none => match sgF k (mWd U (.inr q)) with | some i => (1, qeY (adv (mWd U (.inr q)).length 1 (.inr p)) (out ++ [i]) w o) | none => (1, qeY (mNu U 9999 (.inr q)) (out ++ [256 * nval (mDg U (.inr q)) + 32]) w o) := by
      unfold stA
      rw [hs1]
      rfl
    rw [← c2, ← c3] at eA
    have r0 : redY U k (0, (.inr q, out, w, o)) (stA U k (.inr q, out, w, o)) := redA rfl
    unfold parX
    show PaG U k (1 + 3 * n) q out w o (bif dgI (lkV (lkC U (.inr q))) then em (256 * vNu U 9999 (lkS U (.inr q)) + 32) (aNu U 9999 (lkS U (.inr q)), out) else if lkC U (.inr q) = some 40 then _ else if wAt U (.inr q) = wMin then _ else if wAt U (.inr q) = wMax then _ else if k = 4 ∧ wAt U (.inr q) = wKnows then _ else if k = 4 ∧ wAt U (.inr q) = wReady then _ else match sgF k (wAt U (.inr q)) with | some i => (adv (wAt U (.inr q)).length 1 (lkS U (.inr q)), out ++ [i]) | none => (flA 1 0 (lkS U (.inr q)), out))
    rw [c1]
    have sg0 : sgF k [] = none := by
      unfold sgF
      rw [if_neg (by decide), if_neg (fun z => absurd z.2 (by decide)), if_neg (fun z => absurd z.2 (by decide)), if_neg (fun z => absurd z.2 (by decide)), if_neg (fun z => absurd z.2 (by decide)), if_neg (fun z => absurd z.2 (by decide)), if_neg (fun z => absurd z.2 (by decide)), if_neg (fun z => absurd z.2 (by decide)), if_neg (fun z => absurd z.2 (by decide))]
    have of0 : ofR k [] = none := by unfold ofR; rw [if_neg (fun z => absurd z.2 (by decide)), if_neg (fun z => absurd z.2 (by decide))]
    have eN : mNu U 9999 (.inr q) = aNu U 9999 (.inr p) := by
      rw [← c1, aNu_i]
      unfold mNu aNu
      rw [← c4, c1, hs1]
    cases hd : dgI (lkV (lkC U (.inr q))) with
    | true =>
      show PaG U k (1 + 3 * n) q out w o (em (256 * vNu U 9999 (.inr p) + 32) (aNu U 9999 (.inr p), out))
      obtain ⟨a, tc, g1, g2, g3, g4⟩ := dAt_yes hT hd
      rw [c1] at g1
      have hw0 : wAt U (.inr q) = [] := by
        refine wAt_no hT ?_
        cases hl : ltI (lkV (lkC U (.inr q))) with
        | false => rfl
        | true =>
          have z1 := of_decide_eq_true hd
          have z2 := of_decide_eq_true hl
          omega
      have h40 : ¬ lkC U (.inr q) = some 40 := fun z => by rw [z] at hd; exact absurd hd (by decide)
      rw [if_neg h40, hw0, if_neg (by decide), if_neg (by decide), of0, sg0, eN] at eA
      have eA : stA U k (.inr q, out, w, o) = (1, qeY (aNu U 9999 (.inr p)) (out ++ [256 * nval (mDg U (.inr q)) + 32]) w o) := eA
      rw [eA] at r0
      have hdp : dAt U (.inr p) = dAt U (.inr q) := by rw [← c1, dAt_i]
      cases hnu : aNu U 9999 (.inr p) with
      | inl e =>
        rw [hnu] at r0
        have : (em (256 * vNu U 9999 (.inr p) + 32) ((.inl e : Rdg), out)).1 = .inl e := rfl
        unfold PaG
        rw [this]
        exact r0.F (endF_inl (qeY_l _ _ _ _))
      | inr p' =>
        rw [hnu] at r0
        have hv : vNu U 9999 (.inr p) = nval (mDg U (.inr q)) := by
          unfold vNu
          rw [hnu, hdp, c4]; rfl
        have hv9 := vNu_le U 9999 (.inr p)
        have hp' : p' = (p.1 + (dAt U (.inr q)).length, 2) := by
          unfold aNu at hnu
          rw [hdp, l1] at hnu
          have hne : ¬ dAt U (.inr q) = [] := by rw [g3]; exact g4
          rw [if_neg hne] at hnu
          by_cases h5 : 4 < (dAt U (.inr q)).length
          · rw [if_pos h5] at hnu; cases hnu
          · rw [if_neg h5] at hnu
            by_cases h6 : 9999 < nval (dAt U (.inr q))
            · rw [if_pos h6] at hnu; cases hnu
            · rw [if_neg h6] at hnu; cases hnu; rfl
        have hlen : 0 < (dAt U (.inr q)).length := by rw [g3]; exact List.length_pos_iff.mpr g4
        refine ⟨?_, ⟨[256 * vNu U 9999 (.inr p) + 32], rfl, ?_, (Tyk.lay (fun st hs => ty_nu hv9 st hs)).up (by omega)⟩, ?_⟩
        · rw [hp']
          exact Ivr_dg rfl (by rw [g3]; exact g4) c1
        · rw [hp']
          show 1 + q.1 ≤ p.1 + (dAt U (.inr q)).length
          omega
        · rw [hv]; exact r0
    | false =>
      by_cases h40 : lkC U (.inr q) = some 40
      · rw [if_pos h40]
        rw [if_pos h40] at eA
        rw [eA] at r0
        obtain ⟨p', g1, g2, g3, g4⟩ := Ivr_sg h40
        rw [c1] at g1
        cases g1
        by_cases hn : n = 0
        · have e1 : moS n (.inr p) = .inl (4, p.1) := by unfold moS; rw [if_pos hn]; rfl
          rw [e1]
          have e2 : (0, onY (adv 1 0) (qOpY 1020 (.inr p, (out, w, o)))) = ((0, ((.inl (4, p.1) : Rdg), out, w, o)) : Nat × Ys) := by
            unfold qOpY
            show (0, onY (adv 1 0) (if o = 6 then ((.inl (4, p.1) : Rdg), (out, w, o)) else _)) = _
            rw [if_pos (by omega)]
            rfl
          rw [e2] at r0
          exact r0.F (endF_inl rfl)
        · have e1 : moS n (.inr p) = .inr p := by unfold moS; rw [if_neg hn]
          rw [e1]
          have e2 : (0, onY (adv 1 0) (qOpY 1020 (.inr p, (out, w, o)))) = ((0, ((.inr (p.1 + 1, 0) : Rdg), out, 1020 :: w, o + 1)) : Nat × Ys) := by
            unfold qOpY
            show (0, onY (adv 1 0) (if o = 6 then _ else ((.inr p : Rdg), out, 1020 :: w, o + 1))) = _
            rw [if_neg (by omega)]
            rfl
          rw [e2] at r0
          have e3 : tSg U 40 (.inr p) = .inr (p.1 + 1, 0) := by rw [tSg_y (l2.trans h40), l1]; rfl
          show PaG U k (1 + 3 * n) q out w o (onX (aSg U 41) (D.2.2.1 (tSg U 40 (.inr p), out)))
          rw [e3]
          have S1 := hS hn (p.1 + 1, 0) out (1020 :: w) (o + 1) (by omega) g4 (fun e r z => by cases z; exact ⟨rfl, by decide, by decide⟩)
          have C1 := close_ok (Or.inl rfl) S1
          generalize hx1 : D.2.2.1 (.inr (p.1 + 1, 0), out) = x1 at *
          obtain ⟨s1, out1⟩ := x1
          show PaG U k (1 + 3 * n) q out w o (aSg U 41 s1, out1)
          have C1 : match aSg U 41 s1 with | .inl e => EndF U k (0, (.inr (p.1 + 1, 0), out, 1020 :: w, o + 1)) e | .inr p3 => ∃ p4, s1 = .inr p4 ∧ p3 = (p4.1 + 1, 0) ∧ Ivr U (.inr p3) ∧ redY U k (0, (.inr (p.1 + 1, 0), out, 1020 :: w, o + 1)) (1, qeY (.inr p3) (out1 ++ (if 1020 = 1020 then [] else if 1020 = 1023 then [45] else [46])) w o) := C1
          cases hs41 : aSg U 41 s1 with
          | inl e => rw [hs41] at C1; exact r0.F C1
          | inr p3 =>
            rw [hs41] at C1
            obtain ⟨p4, j1, j2, j3, j4⟩ := C1
            subst j1
            obtain ⟨-, -, -, ⟨cs1, m1, m2, m3⟩, -⟩ := S1
            rw [if_pos rfl, List.append_nil] at j4
            have m2 : cs1.length + (p.1 + 1) ≤ p4.1 := m2
            refine ⟨j3, ⟨cs1, m1, ?_, m3.up (by omega)⟩, r0.tr j4⟩
            rw [j2]
            show cs1.length + q.1 ≤ p4.1 + 1
            omega
      · rw [if_neg h40]
        rw [if_neg h40] at eA
        show PaG U k (1 + 3 * n) q out w o (if wAt U (.inr q) = wMin then paX U n D 45 (tWd U wMin (.inr p), out) else if wAt U (.inr q) = wMax then paX U n D 46 (tWd U wMax (.inr p), out) else if k = 4 ∧ wAt U (.inr q) = wKnows then ofX U n D wKnows 34 (.inr p, out) else if k = 4 ∧ wAt U (.inr q) = wReady then ofX U n D wReady 35 (.inr p, out) else match sgF k (wAt U (.inr q)) with | some i => (adv (wAt U (.inr q)).length 1 (.inr p), out ++ [i]) | none => (flA 1 0 (.inr p), out))
        have hwp : wAt U (.inr p) = wAt U (.inr q) := by rw [← c1, wAt_i]
        have wd : ∀ w', wAt U (.inr q) = w' → w' ≠ [] → Ivr U (.inr (p.1 + w'.length, 1)) ∧ tWd U w' (.inr p) = .inr (p.1 + w'.length, 1) ∧ 0 < w'.length := by
          intro w' hw' hne
          obtain ⟨p', g1, g2, g3, g4⟩ := Ivr_wd hI hw' hne
          rw [c1] at g1
          cases g1
          exact ⟨g4, by rw [tWd_y (hwp.trans hw'), l1]; rfl, g3⟩
        -- a word with a part behind it
        have ofs : ∀ (w' : List Nat) (t : Nat), wAt U (.inr q) = w' → w' ≠ [] → (t = 34 ∨ t = 35) → k = 4 → stA U k (.inr q, out, w, o) = (0, onY (adv w'.length 1) (qOpY t (.inr p, (out, w, o)))) → PaG U k (1 + 3 * n) q out w o (ofX U n D w' t (.inr p, out)) := by
          intro w' t hw' hne ht hk4 e0
          obtain ⟨g1, g2, g3⟩ := wd w' hw' hne
          rw [e0] at r0
          unfold ofX
          by_cases hn : n = 0
          · have e1 : moS n (.inr p) = .inl (4, p.1) := by unfold moS; rw [if_pos hn]; rfl
            show PaG U k (1 + 3 * n) q out w o (bif isOk (moS n (.inr p)) then _ else (moS n (.inr p), out))
            rw [e1]
            have e2 : (0, onY (adv w'.length 1) (qOpY t (.inr p, (out, w, o)))) = ((0, ((.inl (4, p.1) : Rdg), out, w, o)) : Nat × Ys) := by
              unfold qOpY
              show (0, onY (adv w'.length 1) (if o = 6 then ((.inl (4, p.1) : Rdg), (out, w, o)) else _)) = _
              rw [if_pos (by omega)]
              rfl
            rw [e2] at r0
            exact r0.F (endF_inl rfl)
          · have e1 : moS n (.inr p) = .inr p := by unfold moS; rw [if_neg hn]
            show PaG U k (1 + 3 * n) q out w o (bif isOk (moS n (.inr p)) then em t (D.2.2.2 (tWd U w' (moS n (.inr p)), out)) else _)
            rw [e1, g2]
            have e2 : (0, onY (adv w'.length 1) (qOpY t (.inr p, (out, w, o)))) = ((0, ((.inr (p.1 + w'.length, 1) : Rdg), out, t :: w, o + 1)) : Nat × Ys) := by
              unfold qOpY
              show (0, onY (adv w'.length 1) (if o = 6 then _ else ((.inr p : Rdg), out, t :: w, o + 1))) = _
              rw [if_neg (by omega)]
              rfl
            rw [e2] at r0
            have P1 := hP hn (p.1 + w'.length, 1) out (t :: w) (o + 1) (by omega) g1
            show PaG U k (1 + 3 * n) q out w o (em t (D.2.2.2 (.inr (p.1 + w'.length, 1), out)))
            generalize hx1 : D.2.2.2 (.inr (p.1 + w'.length, 1), out) = x1 at *
            obtain ⟨s1, out1⟩ := x1
            cases s1 with
            | inl e => exact r0.F P1
            | inr p3 =>
              obtain ⟨j1, ⟨cs1, m1, m2, m3⟩, j3⟩ := P1
              have m1 : out1 = out ++ cs1 := m1
              have m2 : cs1.length + (p.1 + w'.length) ≤ p3.1 := m2
              refine ⟨j1, ⟨cs1 ++ [t], ?_, ?_, ?_⟩, r0.tr ?_⟩
              · show out1 ++ [t] = _; rw [m1, List.append_assoc]
              · rw [List.length_append]; show cs1.length + 1 + q.1 ≤ p3.1; omega
              · exact (m3.one (fun st => by subst hk4; exact ty_of ht st)).up (by omega)
              · have j3 : redY U k (0, (.inr (p.1 + w'.length, 1), out, t :: w, o + 1)) (1, qeY (.inr p3) out1 (t :: w) (o + 1)) := j3
                rw [qeY_of ht] at j3
                exact j3
        by_cases h1 : wAt U (.inr q) = wMin
        · obtain ⟨g1, g2, g3⟩ := wd wMin h1 (by decide)
          rw [if_pos h1, g2]
          rw [if_pos h1] at eA
          rw [eA] at r0
          exact pair_ok (b := 1021) (Or.inl ⟨rfl, rfl⟩) hS hF ho g1 (by show q.1 ≤ p.1 + _; omega) r0
        · rw [if_neg h1]
          rw [if_neg h1] at eA
          by_cases h2 : wAt U (.inr q) = wMax
          · obtain ⟨g1, g2, g3⟩ := wd wMax h2 (by decide)
            rw [if_pos h2, g2]
            rw [if_pos h2] at eA
            rw [eA] at r0
            exact pair_ok (b := 1022) (Or.inr ⟨rfl, rfl⟩) hS hF ho g1 (by show q.1 ≤ p.1 + _; omega) r0
          · rw [if_neg h2]
            rw [if_neg h2] at eA
            by_cases h3 : k = 4 ∧ wAt U (.inr q) = wKnows
            · rw [if_pos h3]
              have o1 : ofR k (wAt U (.inr q)) = some 34 := by unfold ofR; rw [if_pos h3]
              rw [o1] at eA
              exact ofs wKnows 34 h3.2 (by decide) (Or.inl rfl) h3.1 (by rw [eA, h3.2])
            · rw [if_neg h3]
              by_cases h4 : k = 4 ∧ wAt U (.inr q) = wReady
              · rw [if_pos h4]
                have o1 : ofR k (wAt U (.inr q)) = some 35 := by unfold ofR; rw [if_neg h3, if_pos h4]
                rw [o1] at eA
                exact ofs wReady 35 h4.2 (by decide) (Or.inr rfl) h4.1 (by rw [eA, h4.2])
              · rw [if_neg h4]
                have o1 : ofR k (wAt U (.inr q)) = none := by unfold ofR; rw [if_neg h3, if_neg h4]
                rw [o1] at eA
                cases hg : sgF k (wAt U (.inr q)) with
                | none =>
                  rw [hg] at eA
                  have eA : stA U k (.inr q, out, w, o) = (1, qeY (mNu U 9999 (.inr q)) (out ++ [256 * nval (mDg U (.inr q)) + 32]) w o) := eA
                  have hz : aNu U 9999 (.inr p) = .inl (1, p.1) := by
                    have h0 : dAt U (.inr p) = [] := by rw [← c1, dAt_i]; exact dAt_no hT hd
                    unfold aNu
                    rw [if_pos h0, l1]; rfl
                  rw [eN, hz] at eA
                  rw [eA] at r0
                  exact r0.F (endF_inl (qeY_l _ _ _ _))
                | some i =>
                  rw [hg] at eA
                  have eA : stA U k (.inr q, out, w, o) = (1, qeY (adv (wAt U (.inr q)).length 1 (.inr p)) (out ++ [i]) w o) := eA
                  rw [eA] at r0
                  obtain ⟨g1, g2, g3⟩ := wd (wAt U (.inr q)) rfl (fun z => by rw [z, sg0] at hg; cases hg)
                  refine ⟨g1, ⟨[i], rfl, ?_, (Tyk.lay (fun st hs => ty_sg hk5 hg st hs)).up (by omega)⟩, r0⟩
                  show 1 + q.1 ≤ p.1 + (wAt U (.inr q)).length
                  omega
