/-! A formula read whole; words, numbers, names, signs that are asked for: both readings come to the same. -/
/-- a sum read whole, from above and with a pile -/
theorem su_fin {U : Tx} {k : Nat} (hT : TxW U) (hk : k < 5) {q : Nat × Nat} (hI : Ivr U (.inr q)) :
    (∃ f r, qsF U k f (.inr q) [] 0 = some r ∧ lkS U r.1 = lkS U ((lvl U k 6).2.2.1 (.inr q, [])).1 ∧ (isOk ((lvl U k 6).2.2.1 (.inr q, [])).1 = true → r = (lvl U k 6).2.2.1 (.inr q, []))) ∧
    (isOk ((lvl U k 6).2.2.1 (.inr q, [])).1 = true → Ivr U ((lvl U k 6).2.2.1 (.inr q, [])).1 ∧ ((lvl U k 6).2.2.1 (.inr q, [])).2.length + q.1 ≤ rpos ((lvl U k 6).2.2.1 (.inr q, [])).1 ∧ wty k ((lvl U k 6).2.2.1 (.inr q, [])).2 [] = some [false]) := by
  have P := (lvl_ok hT hk 6).2 q [] [] 0 rfl hI (fun e r z => by cases z)
  have Q := qs_ok (n := 6) P
  generalize (lvl U k 6).2.2.1 (.inr q, []) = x at *
  obtain ⟨s, out⟩ := x
  cases s with
  | inl e =>
    obtain ⟨f, r', g1, g2⟩ := Q
    exact ⟨⟨f, r', g1, g2, fun z => by cases z⟩, fun z => by cases z⟩
  | inr p =>
    obtain ⟨f, g1⟩ := Q
    obtain ⟨h1, -, -, ⟨cs, h3, h4, h5⟩, -⟩ := P
    have h3 : out = cs := h3
    subst h3
    exact ⟨⟨f, _, g1, rfl, fun _ => rfl⟩, fun _ => ⟨h1, h4, h5 [] (by decide)⟩⟩
/-- a test read whole -/
theorem te_fin {U : Tx} {k : Nat} (hT : TxW U) (hk : k < 5) {q : Nat × Nat} (hI : Ivr U (.inr q)) :
    (∃ f r, runZ U k f (0, (.inr q, [], [], 0)) = some r ∧ lkS U r.1 = lkS U ((lvl U k 6).2.1 (.inr q, [])).1 ∧ (isOk ((lvl U k 6).2.1 (.inr q, [])).1 = true → r.1 = ((lvl U k 6).2.1 (.inr q, [])).1 ∧ r.2.1 ++ r.2.2.1 = ((lvl U k 6).2.1 (.inr q, [])).2)) ∧
    (isOk ((lvl U k 6).2.1 (.inr q, [])).1 = true → Ivr U ((lvl U k 6).2.1 (.inr q, [])).1 ∧ ((lvl U k 6).2.1 (.inr q, [])).2.length + q.1 ≤ rpos ((lvl U k 6).2.1 (.inr q, [])).1 ∧ wty k ((lvl U k 6).2.1 (.inr q, [])).2 [] = some [true]) := by
  have P := (lvt_ok hT hk 6).2 q [] [] 0 rfl hI (fun e r z => by cases z)
  generalize (lvl U k 6).2.1 (.inr q, []) = x at *
  obtain ⟨s, out⟩ := x
  cases s with
  | inl e =>
    obtain ⟨r', ⟨f, g1⟩, g2⟩ := P
    exact ⟨⟨f, r', g1, g2, fun z => by cases z⟩, fun z => by cases z⟩
  | inr p =>
    obtain ⟨h1, h2, hw, ⟨cs, h3, h4, h5⟩, pend, out1, h6, h7, h8⟩ := P
    have h3 : out = cs := h3
    subst h3
    have h6 : out = out1 ++ pend := h6
    obtain ⟨l1, l2⟩ := looked h1 h2
    have hcf : cfT U p = false := by
      cases hz : cfT U p with
      | false => rfl
      | true => rw [(cf_yes hz).1] at h2; cases h2
    have hmw := (cf_no h1 hcf).2.2.1
    have n25 : ¬ 1025 ∈ pend ++ [] := fun z => by
      rw [List.append_nil] at z
      have := h7 1025 z
      exact absurd this (by decide)
    have eU : stU U (.inr p, out1, pend ++ [], 0) = (2, (.inr p, out1, pend ++ [], 0)) := by
      unfold stU
      show (if mC U (.inr p) = some 93 ∧ 1025 ∈ pend ++ [] then _ else if mWd U (.inr p) = wAnd then _ else if mWd U (.inr p) = wOr then _ else if 1025 ∈ pend ++ [] then _ else (2, (skM U (.inr p), (out1, pend ++ [], 0)))) = _
      rw [if_neg (fun z => n25 z.2), if_neg (by rw [← hmw]; exact hw wAnd List.mem_cons_self), if_neg (by rw [← hmw]; exact hw wOr (List.mem_cons_of_mem _ List.mem_cons_self)), if_neg n25, l1]
    have hend : EndZ U k (1, (.inr p, out1, pend ++ [], 0)) (.inr p, out1, pend ++ [], 0) := by
      refine redU rfl _ ?_
      rw [eU]
      exact ⟨1, by show (if isOk (.inr p) = false ∨ (2 : Nat) = 2 then some _ else _) = _; rw [if_pos (Or.inr rfl)]⟩
    obtain ⟨f, hf⟩ := h8 _ hend
    exact ⟨⟨f, _, hf, rfl, fun _ => ⟨rfl, by show out1 ++ (pend ++ []) = out; rw [List.append_nil, h6]⟩⟩, fun _ => ⟨h1, h4, h5 [] (by decide)⟩⟩
/-! what is asked for -/
theorem Ivr_l (U : Tx) (e : Nat × Nat) : Ivr U (.inl e) := trivial
theorem mAk_a {U : Tx} {s : Rdg} {w : List Nat} (hI : Ivr U s) (hw : w ≠ []) : mAk U w s = aWd U w s := by
  cases s with
  | inl e =>
    unfold mAk aWd
    rw [if_neg (show ¬ mWd U (.inl e) = w from fun z => hw z.symm), if_neg (show ¬ wAt U (.inl e) = w from fun z => hw z.symm)]
    rfl
  | inr p =>
    unfold mAk aWd
    cases hc : cfT U p with
    | true =>
      obtain ⟨c1, c2, c3, -, c5, -⟩ := cf_yes hc
      rw [c1, c3, c5, if_neg (fun z => hw z.symm), if_neg (fun z => hw z.symm)]
      rfl
    | false =>
      obtain ⟨c1, c2, c3, -⟩ := cf_no hI hc
      rw [c1, c3]
theorem mNu_a {U : Tx} {s : Rdg} {m : Nat} (hI : Ivr U s) : mNu U m s = aNu U m s := by
  cases s with
  | inl e => rfl
  | inr p =>
    unfold mNu aNu
    cases hc : cfT U p with
    | true =>
      obtain ⟨c1, c2, c3, c4, c5, c6, -⟩ := cf_yes hc
      rw [c1, c4, c6, if_pos rfl, if_pos rfl]
      rfl
    | false =>
      obtain ⟨c1, c2, c3, c4⟩ := cf_no hI hc
      rw [c1, c4]
theorem mNm_a {U : Tx} {s : Rdg} (hI : Ivr U s) : mNm U s = aNm U s := by
  cases s with
  | inl e => rfl
  | inr p =>
    unfold mNm aNm
    cases hc : cfT U p with
    | true =>
      obtain ⟨c1, c2, c3, c4, c5, c6, -⟩ := cf_yes hc
      rw [c1, c3, c5, if_pos (Or.inl rfl), if_pos (Or.inl rfl)]
      rfl
    | false =>
      obtain ⟨c1, c2, c3, c4⟩ := cf_no hI hc
      rw [c1, c3]
theorem mAs_a {U : Tx} {s : Rdg} {c : Nat} (hI : Ivr U s) (hc : dgB c = false ∧ ltB c = false) : mAs U c s = aSg U c s := by
  cases s with
  | inl e => rfl
  | inr p =>
    unfold mAs aSg
    cases hf : cfT U p with
    | true =>
      obtain ⟨c1, c2, -, -, -, -, x, c7, c8⟩ := cf_yes hf
      rw [c1, c2, c7, if_neg (fun z => by cases z; rcases c8 with q | q; rw [hc.1] at q; cases q; rw [hc.2] at q; cases q), if_neg (fun z => by cases z)]
      rfl
    | false =>
      obtain ⟨c1, c2, -⟩ := cf_no hI hf
      rw [c1, c2]
/-- where one reading is behind the other by a look, a sign that is asked for comes to the same -/
theorem mAs_lk {U : Tx} {s s' : Rdg} {c : Nat} (hI : Ivr U s) (hc : dgB c = false ∧ ltB c = false) (h : lkS U s = lkS U s') : mAs U c s = aSg U c s' := by
  rw [mAs_a hI hc, ← aSg_i, h, aSg_i]
theorem Ivr_aS {U : Tx} {s : Rdg} {c : Nat} (_ : Ivr U s) : Ivr U (aSg U c s) := by
  unfold aSg
  by_cases h : lkC U s = some c
  · rw [if_pos h]
    cases s with
    | inl e => exact trivial
    | inr q =>
      obtain ⟨p, e1, -, -, e4⟩ := Ivr_sg h
      rw [e1]
      exact e4
  · rw [if_neg h]
    cases lkS U s <;> exact trivial
theorem Ivr_aW {U : Tx} {s : Rdg} {w : List Nat} (hI : Ivr U s) (hw : w ≠ []) : Ivr U (aWd U w s) := by
  unfold aWd
  by_cases h : wAt U s = w
  · rw [if_pos h]
    cases s with
    | inl e => exact trivial
    | inr q =>
      obtain ⟨p, e1, -, -, e4⟩ := Ivr_wd hI h hw
      rw [e1]
      exact e4
  · rw [if_neg h]
    cases lkS U s <;> exact trivial
theorem Ivr_aN {U : Tx} {s : Rdg} {m : Nat} (_ : Ivr U s) : Ivr U (aNu U m s) := by
  unfold aNu
  by_cases h1 : dAt U s = []
  · rw [if_pos h1]; cases lkS U s <;> exact trivial
  · rw [if_neg h1]
    by_cases h2 : 4 < (dAt U s).length
    · rw [if_pos h2]; cases lkS U s <;> exact trivial
    · rw [if_neg h2]
      by_cases h3 : m < nval (dAt U s)
      · rw [if_pos h3]; cases lkS U s <;> exact trivial
      · rw [if_neg h3]
        cases s with
        | inl e => exact trivial
        | inr q =>
          cases hl : lkS U (.inr q) with
          | inl e => exact trivial
          | inr p => exact Ivr_dg rfl h1 hl
theorem Ivr_aM {U : Tx} {s : Rdg} (hI : Ivr U s) : Ivr U (aNm U s) := by
  unfold aNm
  by_cases h1 : wAt U s = [] ∨ wAt U s ∈ ownW
  · rw [if_pos h1]; cases lkS U s <;> exact trivial
  · rw [if_neg h1]
    by_cases h2 : 6 < (wAt U s).length
    · rw [if_pos h2]; cases lkS U s <;> exact trivial
    · rw [if_neg h2]
      cases s with
      | inl e => exact trivial
      | inr q =>
        obtain ⟨p, e1, -, -, e4⟩ := Ivr_wd hI rfl (fun z => h1 (Or.inl z))
        rw [e1]
        exact e4
theorem Ivr_fl {U : Tx} {s : Rdg} {w k : Nat} : Ivr U (flP w k s) := by cases s <;> exact trivial
theorem flP_no (w k : Nat) (s : Rdg) : isOk (flP w k s) = false := by cases s <;> rfl
/-- it goes on, at least so far -/
theorem lk_rp (U : Tx) (s : Rdg) : isOk (lkS U s) = true → isOk s = true ∧ rpos s ≤ rpos (lkS U s) := by
  intro h
  cases s with
  | inl e => cases h
  | inr q =>
    cases hl : lkS U (.inr q) with
    | inl e => rw [hl] at h; cases h
    | inr p => exact ⟨rfl, rpos_lk U q p hl⟩
theorem adv_ok {U : Tx} {a b : Nat} {s : Rdg} (h : isOk (adv a b (lkS U s)) = true) : isOk s = true ∧ rpos s + a ≤ rpos (adv a b (lkS U s)) := by
  rw [isOk_adv] at h
  obtain ⟨h1, h2⟩ := lk_rp U s h
  exact ⟨h1, by rw [rp_adv h]; omega⟩
theorem aS_ok {U : Tx} {s : Rdg} {c : Nat} (h : isOk (aSg U c s) = true) : isOk s = true ∧ rpos s + 1 ≤ rpos (aSg U c s) := by
  unfold aSg at h ⊢
  by_cases hc : lkC U s = some c
  · rw [if_pos hc] at h ⊢; exact adv_ok h
  · rw [if_neg hc, flA_no] at h; cases h
theorem aW_ok {U : Tx} {s : Rdg} {w : List Nat} (h : isOk (aWd U w s) = true) : isOk s = true ∧ rpos s ≤ rpos (aWd U w s) := by
  unfold aWd at h ⊢
  by_cases hc : wAt U s = w
  · rw [if_pos hc] at h ⊢
    obtain ⟨h1, h2⟩ := adv_ok h
    exact ⟨h1, by omega⟩
  · rw [if_neg hc, flA_no] at h; cases h
theorem aN_ok {U : Tx} {s : Rdg} {m : Nat} (h : isOk (aNu U m s) = true) : isOk s = true ∧ rpos s ≤ rpos (aNu U m s) := by
  unfold aNu at h ⊢
  by_cases h1 : dAt U s = []
  · rw [if_pos h1, flA_no] at h; cases h
  · rw [if_neg h1] at h ⊢
    by_cases h2 : 4 < (dAt U s).length
    · rw [if_pos h2, flA_no] at h; cases h
    · rw [if_neg h2] at h ⊢
      by_cases h3 : m < nval (dAt U s)
      · rw [if_pos h3, flA_no] at h; cases h
      · rw [if_neg h3] at h ⊢
        obtain ⟨h4, h5⟩ := adv_ok h
        exact ⟨h4, by omega⟩
theorem aM_ok {U : Tx} {s : Rdg} (h : isOk (aNm U s) = true) : isOk s = true ∧ rpos s ≤ rpos (aNm U s) ∧ wAt U s ≠ [] ∧ (wAt U s).length ≤ 6 ∧ vNm U s = (wAt U s).map (fun c => c - 96) := by
  have hv : vNm U s = (wAt U s).map (fun c => c - 96) := by unfold vNm; rw [h]; rfl
  unfold aNm at h ⊢
  by_cases h1 : wAt U s = [] ∨ wAt U s ∈ ownW
  · rw [if_pos h1, flA_no] at h; cases h
  · rw [if_neg h1] at h ⊢
    by_cases h2 : 6 < (wAt U s).length
    · rw [if_pos h2, flA_no] at h; cases h
    · rw [if_neg h2] at h ⊢
      obtain ⟨h4, h5⟩ := adv_ok h
      exact ⟨h4, by omega, fun z => h1 (Or.inl z), by omega, hv⟩
theorem wAt_l {U : Tx} {s : Rdg} : ∀ c, c ∈ wAt U s → ltB c = true := by
  intro c hc
  unfold wAt at hc
  cases hl : lkC U s with
  | none => rw [hl] at hc; cases hc
  | some x =>
    rw [hl] at hc
    have hc : c ∈ (match lkS U s with | .inl _ => [] | .inr p => wrd U p.1) := hc
    cases hs : lkS U s with
    | inl e => rw [hs] at hc; cases hc
    | inr p =>
      rw [hs] at hc
      have hc : c ∈ wrd U p.1 := hc
      obtain ⟨j, hj, he⟩ := List.getElem_of_mem hc
      have := ((wrd_end (T := U) _ p.1 rfl).2.2 j hj).1
      have h2 := ((wrd_end (T := U) _ p.1 rfl).2.2 j hj).2
      rw [← this, List.getD_eq_getElem?_getD, List.getElem?_eq_getElem hj] at h2
      rw [← he]
      exact h2
/-- a name that is told: one to six letters by numbers -/
theorem vN_ok {U : Tx} {s : Rdg} (h : isOk (aNm U s) = true) : (vNm U s).length ≤ 6 ∧ 0 < (vNm U s).length ∧ ∀ c, c ∈ vNm U s → 1 ≤ c ∧ c ≤ 26 := by
  obtain ⟨-, -, h1, h2, h3⟩ := aM_ok h
  rw [h3, List.length_map]
  refine ⟨h2, List.length_pos_iff.mpr h1, fun c hc => ?_⟩
  obtain ⟨x, hx, rfl⟩ := List.mem_map.mp hc
  have := ltB_r (wAt_l x hx)
  omega
theorem vN_m {U : Tx} {s : Rdg} (hI : Ivr U s) (h : isOk (aNm U s) = true) : lets (mWd U s) = vNm U s := by
  obtain ⟨-, -, h1, h2, h3⟩ := aM_ok h
  rw [h3]
  cases s with
  | inl e => cases h
  | inr p =>
    cases hc : cfT U p with
    | true =>
      obtain ⟨c1, c2, c3, -⟩ := cf_yes hc
      exact absurd c3 h1
    | false => rw [(cf_no hI hc).2.2.1]; rfl
theorem vU_m {U : Tx} {s : Rdg} {m : Nat} (hI : Ivr U s) (h : isOk (aNu U m s) = true) : nval (mDg U s) = vNu U m s := by
  have hv : vNu U m s = nval (dAt U s) := by unfold vNu; rw [h]; rfl
  rw [hv]
  cases s with
  | inl e => cases h
  | inr p =>
    cases hc : cfT U p with
    | true =>
      obtain ⟨c1, c2, c3, c4, -⟩ := cf_yes hc
      unfold aNu at h
      rw [if_pos c4, flA_no] at h
      cases h
    | false => rw [(cf_no hI hc).2.2.2]
theorem sk_rp {U : Tx} {s : Rdg} (hI : Ivr U s) (h : isOk (aNm U s) = true) : rpos (skM U s) = rpos (lkS U s) := by
  obtain ⟨-, -, h1, -⟩ := aM_ok h
  cases s with
  | inl e => rfl
  | inr p =>
    cases hc : cfT U p with
    | true => exact absurd (cf_yes hc).2.2.1 h1
    | false => rw [(cf_no hI hc).1]
