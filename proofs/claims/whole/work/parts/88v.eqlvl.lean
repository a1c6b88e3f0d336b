/-! A formula read: from above down and with a pile come to the same; tests of all levels. -/
theorem woL_s (U : Tx) (f : Xs → Xs) (w : List Nat) (t m : Nat) (x : Xs) : woL U f w t (m + 1) x = if wAt U x.1 = w then woL U f w t m (em t (f (tWd U w x.1, x.2))) else (lkS U x.1, x.2) := rfl
def anF (pe : List Nat) : Prop := pe = [] ∨ pe = [43]
def orF (po : List Nat) : Prop := po = [] ∨ po = [44]
theorem at_endW {U : Tx} {q : Nat × Nat} (h : U.1 ≤ q.1) : wAt U (.inr q) = [] := by
  unfold wAt
  rw [(at_end h).2]
theorem tk_p {p : Nat → Bool} {l u : List Nat} (hl : ∀ e, e ∈ l → p e = true) (hu : ∀ e r, u = e :: r → p e = false) : tkW p (l ++ u) = l ∧ drW p (l ++ u) = u := by
  induction l with
  | nil =>
    cases u with
    | nil => exact ⟨rfl, rfl⟩
    | cons e u =>
      have := hu e u rfl
      constructor
      · show (bif p e then _ else []) = []; rw [this]; rfl
      · show (bif p e then _ else e :: u) = e :: u; rw [this]; rfl
  | cons e l ih =>
    have he := hl e List.mem_cons_self
    have ih := ih (fun x hx => hl x (List.mem_cons_of_mem e hx))
    constructor
    · show (bif p e then e :: tkW p (l ++ u) else []) = e :: l; rw [he, ih.1]; rfl
    · show (bif p e then drW p (l ++ u) else e :: (l ++ u)) = u; rw [he, ih.2]; rfl
theorem Ivr_wd2 {U : Tx} {q : Nat × Nat} {w : List Nat} (hI : Ivr U (.inr q)) (hcf : cfT U q = false) (h : wAt U (.inr q) = w) (hw : w ≠ []) : ∃ p, skM U (.inr q) = .inr p ∧ q.1 ≤ p.1 ∧ 0 < w.length ∧ Ivr U (.inr (p.1 + w.length, 1)) ∧ tWd U w (.inr q) = .inr (p.1 + w.length, 1) ∧ mWd U (.inr q) = w ∧ mC U (.inr q) ≠ some 93 := by
  obtain ⟨c1, c2, c3, -⟩ := cf_no hI hcf
  obtain ⟨p, g1, g2, g3, g4⟩ := Ivr_wd hI h hw
  refine ⟨p, by rw [← c1]; exact g1, g2, g3, g4, by rw [tWd_y h, g1]; rfl, by rw [← c3]; exact h, fun z => ?_⟩
  rw [← c2] at z
  rw [wAt_of z g1] at h
  obtain ⟨a, tc, e1, -, e3, -⟩ := lk_some z
  rw [g1] at e1
  cases e1
  have := wrd_e (T := U) (a := a) (Or.inr (by rw [e3]; rfl))
  rw [h] at this
  exact hw this
theorem bol_ok {U : Tx} {k n : Nat} {f : Xs → Xs} (hf : FaK U k n f) {q0 : Nat × Nat} {out0 u : List Nat} {o : Nat} (ho : o + n = 6) (hu : hdZ isAn u) :
    ∀ (m : Nat) (q : Nat × Nat) (out1 pe cs0 : List Nat), U.1 ≤ q.1 + m → Ivr U (.inr q) → anF pe → redZ U k (0, (.inr q0, out0, u, o)) (1, (.inr q, out1, pe ++ u, o)) → out1 ++ pe = out0 ++ cs0 → cs0.length + q0.1 ≤ q.1 → Tyk k cs0 true (5 + 3 * n) →
    WoG U k (5 + 3 * n) [wAnd] isAn q0 out0 u o (woL U f wAnd 43 m (.inr q, out1 ++ pe)) := by
  have anp : ∀ {pe : List Nat}, anF pe → ∀ e, e ∈ pe → isAn e = true := by
    intro pe h e he
    rcases h with rfl | rfl
    · cases he
    · rw [List.mem_singleton.mp he]; rfl
  intro m
  induction m with
  | zero =>
    intro q out1 pe cs0 hm hI hpe hr he hl ht
    obtain ⟨a1, a2⟩ := at_end (q := q) (by omega)
    have a3 := at_endW (q := q) (by omega)
    exact ⟨hI, a1, fun w hw => by rw [a3, List.mem_singleton.mp hw]; decide, ⟨cs0, he, hl, ht⟩, pe, out1, rfl, anp hpe, hr⟩
  | succ m ih =>
    intro q out1 pe cs0 hm hI hpe hr he hl ht
    rw [woL_s]
    show WoG U k (5 + 3 * n) [wAnd] isAn q0 out0 u o (if wAt U (.inr q) = wAnd then woL U f wAnd 43 m (em 43 (f (tWd U wAnd (.inr q), out1 ++ pe))) else (lkS U (.inr q), out1 ++ pe))
    cases hcf : cfT U q with
    | true =>
      obtain ⟨c1, c2, c3, -⟩ := cf_yes hcf
      rw [c3, if_neg (by decide), c1]
      exact hr.F (cf_U hcf _)
    | false =>
      obtain ⟨c1, c2, c3, -⟩ := cf_no hI hcf
      obtain ⟨w1, w2⟩ := tk_p (u := u) (anp hpe) (fun e r z => (hu e r z).1)
      by_cases hw : wAt U (.inr q) = wAnd
      · rw [if_pos hw]
        obtain ⟨p, g1, g2, g3, g4, g5, g6, g7⟩ := Ivr_wd2 hI hcf hw (by decide)
        rw [g5]
        have eU : stU U (.inr q, out1, pe ++ u, o) = (0, (.inr (p.1 + 3, 1), out1 ++ pe, 43 :: u, o)) := by
          unfold stU
          show (if mC U (.inr q) = some 93 ∧ _ then _ else if mWd U (.inr q) = wAnd then (0, (adv 3 1 (skM U (.inr q)), out1 ++ tkW isAn (pe ++ u), 43 :: drW isAn (pe ++ u), o)) else _) = _
          rw [if_neg (fun z => g7 z.1), if_pos g6, g1, w1, w2]
          rfl
        have hr2 := hr.tr (redU rfl)
        rw [eU] at hr2
        have P := hf (p.1 + 3, 1) (out1 ++ pe) (43 :: u) o ho g4
        show WoG U k (5 + 3 * n) [wAnd] isAn q0 out0 u o (woL U f wAnd 43 m (em 43 (f (.inr (p.1 + 3, 1), out1 ++ pe))))
        generalize hx : f (.inr (p.1 + 3, 1), out1 ++ pe) = x at *
        obtain ⟨s1, out2⟩ := x
        cases s1 with
        | inl e =>
          have : (woL U f wAnd 43 m (em 43 ((.inl e : Rdg), out2))).1 = .inl e := fl_wo (by decide) _ rfl
          unfold WoG
          rw [this]
          exact hr2.F P
        | inr p1 =>
          obtain ⟨j1, ⟨cs1, m1, m2, m3⟩, j3⟩ := P
          have m1 : out2 = out1 ++ pe ++ cs1 := m1
          have m2 : cs1.length + (p.1 + 3) ≤ p1.1 := m2
          have j3 : redZ U k (0, (.inr (p.1 + 3, 1), out1 ++ pe, 43 :: u, o)) (1, dnZ (.inr p1) out2 (43 :: u) o) := j3
          rw [dnZ_n (fun e r z => by cases z; decide)] at j3
          have ht' : Tyk k cs0 true (4 + 3 * n + 1) := ht.up (by omega)
          exact ih p1 out2 [43] (cs0 ++ cs1 ++ [43]) (by omega) j1 (Or.inr rfl) (hr2.tr j3) (by rw [m1, he]; simp only [List.append_assoc]) (by simp only [List.length_append, List.length_cons, List.length_nil]; omega) ((ht'.two2 (t := 43) (z := true) m3 (fun st => ty_lo (Or.inl rfl) st)).up (by omega))
      · rw [if_neg hw]
        cases hp : lkS U (.inr q) with
        | inl e => rw [c1] at hp; cases hp
        | inr p =>
          have hI2 := Ivr_lk hI
          rw [hp] at hI2
          refine ⟨hI2, by rw [← hp, lkS_i], fun w z => by rw [List.mem_singleton.mp z, ← hp, wAt_i]; exact hw, ⟨cs0, he, ?_, ht⟩, pe, out1, rfl, anp hpe, hr.tr (redZLk hI hp _)⟩
          have := rpos_lk U q p hp
          omega
theorem bo_ok {U : Tx} {k n : Nat} {D : Lv} (hT : TxW U) (hf : FaK U k n (fcX U k n D)) : BoK U k n (boX U k n D) := by
  intro q out u o ho hI hu
  have P := hf q out u o ho hI
  unfold boX
  generalize hx : fcX U k n D (.inr q, out) = x at *
  obtain ⟨s1, out1⟩ := x
  cases s1 with
  | inl e =>
    have : (woL U (fcX U k n D) wAnd 43 1600 ((.inl e : Rdg), out1)).1 = .inl e := fl_wo (by decide) _ rfl
    unfold WoG
    rw [this]
    exact P
  | inr p =>
    obtain ⟨j1, ⟨cs1, m1, m2, m3⟩, j3⟩ := P
    have j3 : redZ U k (0, (.inr q, out, u, o)) (1, dnZ (.inr p) out1 u o) := j3
    rw [dnZ_n (fun e r z => (hu e r z).2)] at j3
    have h16 := hT.1
    have := bol_ok hf (q0 := q) (out0 := out) (u := u) ho hu 1600 p out1 [] cs1 (by omega) j1 (Or.inl rfl) j3 (by rw [List.append_nil]; exact m1) m2 (m3.up (by omega))
    rw [List.append_nil] at this
    exact this
theorem tel_ok {U : Tx} {k n : Nat} {f : Xs → Xs} (hf : BoK U k n f) {q0 : Nat × Nat} {out0 u : List Nat} {o : Nat} (ho : o + n = 6) (hu : hdZ isLo u) :
    ∀ (m : Nat) (q : Nat × Nat) (out1 pe po cs0 : List Nat), U.1 ≤ q.1 + m → Ivr U (.inr q) → lkS U (.inr q) = .inr q → wAt U (.inr q) ≠ wAnd → (∀ e, e ∈ pe → isAn e = true) → orF po → redZ U k (0, (.inr q0, out0, u, o)) (1, (.inr q, out1, pe ++ po ++ u, o)) → out1 ++ (pe ++ po) = out0 ++ cs0 → cs0.length + q0.1 ≤ q.1 → Tyk k cs0 true (6 + 3 * n) →
    WoG U k (6 + 3 * n) [wAnd, wOr] isLo q0 out0 u o (woL U f wOr 44 m (.inr q, out1 ++ (pe ++ po))) := by
  have lop : ∀ {pe po : List Nat}, (∀ e, e ∈ pe → isAn e = true) → orF po → ∀ e, e ∈ pe ++ po → isLo e = true := by
    intro pe po h h2 e he
    rcases List.mem_append.mp he with z | z
    · have := h e z
      unfold isAn at this
      unfold isLo
      rw [this]; rfl
    · rcases h2 with rfl | rfl
      · cases z
      · rw [List.mem_singleton.mp z]; rfl
  intro m
  induction m with
  | zero =>
    intro q out1 pe po cs0 hm hI hl0 hn hpe hpo hr he hl ht
    have a3 := at_endW (q := q) (by omega)
    refine ⟨hI, hl0, fun w hw => ?_, ⟨cs0, he, hl, ht⟩, pe ++ po, out1, rfl, lop hpe hpo, hr⟩
    rw [a3]
    rcases List.mem_cons.mp hw with rfl | hw
    · decide
    · rw [List.mem_singleton.mp hw]; decide
  | succ m ih =>
    intro q out1 pe po cs0 hm hI hl0 hn hpe hpo hr he hl ht
    rw [woL_s]
    show WoG U k (6 + 3 * n) [wAnd, wOr] isLo q0 out0 u o (if wAt U (.inr q) = wOr then woL U f wOr 44 m (em 44 (f (tWd U wOr (.inr q), out1 ++ (pe ++ po)))) else (lkS U (.inr q), out1 ++ (pe ++ po)))
    have hcf : cfT U q = false := by
      cases hz : cfT U q with
      | false => rfl
      | true => rw [(cf_yes hz).1] at hl0; cases hl0
    obtain ⟨c1, c2, c3, -⟩ := cf_no hI hcf
    obtain ⟨w1, w2⟩ := tk_p (u := u) (lop hpe hpo) (fun e r z => (hu e r z).1)
    by_cases hw : wAt U (.inr q) = wOr
    · rw [if_pos hw]
      obtain ⟨p, g1, g2, g3, g4, g5, g6, g7⟩ := Ivr_wd2 hI hcf hw (by decide)
      rw [g5]
      have eU : stU U (.inr q, out1, pe ++ po ++ u, o) = (0, (.inr (p.1 + 2, 1), out1 ++ (pe ++ po), 44 :: u, o)) := by
        unfold stU
        show (if mC U (.inr q) = some 93 ∧ _ then _ else if mWd U (.inr q) = wAnd then _ else if mWd U (.inr q) = wOr then (0, (adv 2 1 (skM U (.inr q)), out1 ++ tkW isLo (pe ++ po ++ u), 44 :: drW isLo (pe ++ po ++ u), o)) else _) = _
        rw [if_neg (fun z => g7 z.1), if_neg (by rw [g6]; decide), if_pos g6, g1, w1, w2]
        rfl
      have hr2 := hr.tr (redU rfl)
      rw [eU] at hr2
      have P := hf (p.1 + 2, 1) (out1 ++ (pe ++ po)) (44 :: u) o ho g4 (fun e r z => by cases z; exact ⟨rfl, by decide⟩)
      show WoG U k (6 + 3 * n) [wAnd, wOr] isLo q0 out0 u o (woL U f wOr 44 m (em 44 (f (.inr (p.1 + 2, 1), out1 ++ (pe ++ po)))))
      generalize hx : f (.inr (p.1 + 2, 1), out1 ++ (pe ++ po)) = x at *
      obtain ⟨s1, out2⟩ := x
      cases s1 with
      | inl e =>
        have : (woL U f wOr 44 m (em 44 ((.inl e : Rdg), out2))).1 = .inl e := fl_wo (by decide) _ rfl
        unfold WoG
        rw [this]
        exact hr2.F P
      | inr p1 =>
        obtain ⟨j1, j2, j3, ⟨cs1, m1, m2, m3⟩, pe', out1', m4, m5, j4⟩ := P
        have m1 : out2 = out1 ++ (pe ++ po) ++ cs1 := m1
        have m2 : cs1.length + (p.1 + 2) ≤ p1.1 := m2
        have m4 : out2 = out1' ++ pe' := m4
        have ht' : Tyk k cs0 true (5 + 3 * n + 1) := ht.up (by omega)
        have := ih p1 out1' pe' [44] (cs0 ++ cs1 ++ [44]) (by omega) j1 j2 (j3 wAnd List.mem_cons_self) m5 (Or.inr rfl) (by
          refine hr2.tr ?_
          rw [List.append_assoc]
          exact j4) (by rw [← List.append_assoc, ← m4, m1, he]; simp only [List.append_assoc]) (by simp only [List.length_append, List.length_cons, List.length_nil]; omega) ((ht'.two2 (t := 44) (z := true) m3 (fun st => ty_lo (Or.inr rfl) st)).up (by omega))
        rw [← List.append_assoc, ← m4] at this
        exact this
    · rw [if_neg hw, hl0]
      refine ⟨hI, hl0, fun w z => ?_, ⟨cs0, he, hl, ht⟩, pe ++ po, out1, rfl, lop hpe hpo, hr⟩
      rcases List.mem_cons.mp z with rfl | z
      · exact hn
      · rw [List.mem_singleton.mp z]; exact hw
theorem hd_an {u : List Nat} (h : hdZ isLo u) : hdZ isAn u := by
  intro e r z
  obtain ⟨h1, h2⟩ := h e r z
  refine ⟨?_, h2⟩
  unfold isLo at h1
  rw [Bool.or_eq_false_iff] at h1
  exact h1.1
theorem te_ok {U : Tx} {k n : Nat} {D : Lv} (hT : TxW U) (hf : BoK U k n (boX U k n D)) : TeK U k n (teX U k n D) := by
  intro q out u o ho hI hu
  have P := hf q out u o ho hI (hd_an hu)
  unfold teX
  generalize hx : boX U k n D (.inr q, out) = x at *
  obtain ⟨s1, out1⟩ := x
  cases s1 with
  | inl e =>
    have : (woL U (boX U k n D) wOr 44 1600 ((.inl e : Rdg), out1)).1 = .inl e := fl_wo (by decide) _ rfl
    unfold WoG
    rw [this]
    exact P
  | inr p =>
    obtain ⟨j1, j2, j3, ⟨cs1, m1, m2, m3⟩, pe', out1', m4, m5, j4⟩ := P
    have h16 := hT.1
    have m4 : out1 = out1' ++ pe' := m4
    have m1 : out1 = out ++ cs1 := m1
    have := tel_ok hf (q0 := q) (out0 := out) (u := u) ho hu 1600 p out1' pe' [] cs1 (by omega) j1 j2 (j3 wAnd List.mem_cons_self) m5 (Or.inl rfl) (by rw [List.append_nil]; exact j4) (by rw [List.append_nil, ← m4]; exact m1) m2 (m3.up (by omega))
    rw [List.append_nil, ← m4] at this
    exact this
/-- every level's facts and tests -/
theorem lvt_ok {U : Tx} {k : Nat} (hT : TxW U) (hk5 : k < 5) : ∀ n, FaK U k n (lvl U k n).1 ∧ TeK U k n (lvl U k n).2.1 := by
  intro n
  induction n with
  | zero =>
    have hp : FaK U k 0 (fcX U k 0 (id, id, id, id)) := fact_ok (lvl_ok hT hk5 0).2 (fun z => absurd rfl z) (fun z => absurd rfl z)
    exact ⟨hp, te_ok hT (bo_ok hT hp)⟩
  | succ n ih =>
    have hp : FaK U k (n + 1) (fcX U k (n + 1) (lvl U k n)) := fact_ok (lvl_ok hT hk5 (n + 1)).2 (fun _ => ih.1) (fun _ => ih.2)
    exact ⟨hp, te_ok hT (bo_ok hT hp)⟩
