/-! A formula read: from above down and with a pile come to the same; sums. -/
def Tyk (k : Nat) (cs : List Nat) (b : Bool) (M : Nat) : Prop := ∀ st : List Bool, st.length + M ≤ 64 → wty k cs st = some (b :: st)
theorem wty_app (k : Nat) : ∀ (a b : List Nat) (st : List Bool), wty k (a ++ b) st = (wty k a st).bind (wty k b) := by
  intro a
  induction a with
  | nil => intro b st; rfl
  | cons t a ih =>
    intro b st
    show (match wt1 k t st with | none => none | some r => wty k (a ++ b) r) = (match wt1 k t st with | none => none | some r => wty k a r).bind (wty k b)
    cases wt1 k t st with
    | none => rfl
    | some r => exact ih b r
theorem Tyk.up {k : Nat} {cs : List Nat} {b : Bool} {M M' : Nat} (h : Tyk k cs b M) (hM : M ≤ M') : Tyk k cs b M' := fun st hs => h st (by omega)
/-- two, one behind another, joined by an order -/
theorem Tyk.two {k t : Nat} {a b : List Nat} {x y z : Bool} {M : Nat} (ha : Tyk k a x M) (hb : Tyk k b y M) (ht : ∀ st, wt1 k t (y :: x :: st) = some (z :: st)) : Tyk k (a ++ b ++ [t]) z (M + 1) := by
  intro st hs
  rw [wty_app, wty_app, ha st (by omega)]
  show ((wty k b (x :: st)).bind (wty k [t])) = _
  rw [hb (x :: st) (by rw [List.length_cons]; omega)]
  show wty k [t] (y :: x :: st) = _
  show (match wt1 k t (y :: x :: st) with | none => none | some r => wty k [] r) = _
  rw [ht]; rfl
theorem Tyk.one {k t : Nat} {a : List Nat} {x z : Bool} {M : Nat} (ha : Tyk k a x M) (ht : ∀ st, wt1 k t (x :: st) = some (z :: st)) : Tyk k (a ++ [t]) z M := by
  intro st hs
  rw [wty_app, ha st hs]
  show (match wt1 k t (x :: st) with | none => none | some r => wty k [] r) = _
  rw [ht]; rfl
theorem Tyk.lay {k t : Nat} {z : Bool} (ht : ∀ st : List Bool, st.length < 64 → wt1 k t st = some (z :: st)) : Tyk k [t] z 1 := by
  intro st hs
  show (match wt1 k t st with | none => none | some r => wty k [] r) = _
  rw [ht st (by omega)]; rfl
theorem ty_ar {k t : Nat} (h : (36 ≤ t ∧ t ≤ 39) ∨ t = 45 ∨ t = 46) (st : List Bool) : wt1 k t (false :: false :: st) = some (false :: st) := by
  unfold wt1
  rw [if_neg (by omega), if_neg (by omega), if_neg (by omega)]
  show (if t = 33 then _ else if t = 34 ∨ t = 35 then _ else (if (36 ≤ t ∧ t ≤ 39) ∨ t = 45 ∨ t = 46 then (if (false : Bool) = false ∧ (false : Bool) = false then some (false :: st) else none) else _)) = _
  rw [if_neg (by omega), if_neg (by omega), if_pos h, if_pos ⟨rfl, rfl⟩]
theorem ty_of {t : Nat} (h : t = 34 ∨ t = 35) (st : List Bool) : wt1 4 t (false :: st) = some (false :: st) := by
  rcases h with rfl | rfl <;> rfl
theorem ty_nu {k v : Nat} (hv : v ≤ 9999) (st : List Bool) (hs : st.length < 64) : wt1 k (256 * v + 32) st = some (false :: st) := by
  unfold wt1
  rw [if_neg (by omega), if_pos (by omega), if_pos ⟨by omega, hs⟩]
theorem ty_sg {k i : Nat} {w : List Nat} (hk : k < 5) (h : sgF k w = some i) (st : List Bool) (hs : st.length < 64) : wt1 k i st = some (false :: st) := by
  have hi := sgF_lt h
  have ho : sOk k i = true := by
    rcases (by omega : k = 0 ∨ k = 1 ∨ k = 2 ∨ k = 3 ∨ k = 4) with rfl | rfl | rfl | rfl | rfl
    all_goals
      unfold sgF at h
      repeat' split at h
      all_goals first | (cases h; rfl) | (rename_i z; exact absurd z.1 (by decide)) | cases h
  unfold wt1
  rw [if_pos hi, if_pos ⟨ho, hs⟩]
theorem Ivr_lk {U : Tx} {s : Rdg} (h : Ivr U s) : Ivr U (lkS U s) := by
  cases s with
  | inl e => trivial
  | inr p =>
    obtain ⟨h1, h2, h3, h4⟩ := h
    have key : Ivr U (.inr (skp U p.1, tcN U p.1 p.2)) := by
      by_cases hq : skp U p.1 = p.1
      · have ht : tcN U p.1 p.2 = p.2 := by unfold tcN; exact if_pos hq
        rw [hq, ht]; exact ⟨h1, h2, h3, h4⟩
      · have ht : tcN U p.1 p.2 = 0 := by unfold tcN; exact if_neg hq
        rw [ht]
        exact ⟨skp_le h1, Nat.zero_le _, fun z => (by cases z), fun z => (by cases z)⟩
    unfold lkS
    show Ivr U (if _ then _ else _)
    split
    · exact key
    · cases cfl U (skp U p.1) (tcN U p.1 p.2) with
      | true => trivial
      | false => exact key
theorem rpos_lk (U : Tx) (q p : Nat × Nat) (h : lkS U (.inr q) = .inr p) : q.1 ≤ p.1 := by
  have : p.1 = skp U q.1 := by
    unfold lkS at h
    have h : (if U.1 ≤ skp U q.1 then (.inr (skp U q.1, tcN U q.1 q.2) : Rdg) else bif cfl U (skp U q.1) (tcN U q.1 q.2) then .inl (1, skp U q.1) else .inr (skp U q.1, tcN U q.1 q.2)) = .inr p := h
    split at h
    · cases h; rfl
    · cases hc : cfl U (skp U q.1) (tcN U q.1 q.2) with
      | true => rw [hc] at h; cases h
      | false => rw [hc] at h; cases h; rfl
  rw [this]
  exact skp_up U q.1
theorem Ivr_sg {U : Tx} {q : Nat × Nat} {c : Nat} (h : lkC U (.inr q) = some c) : ∃ p, lkS U (.inr q) = .inr p ∧ q.1 ≤ p.1 ∧ p.1 < U.1 ∧ Ivr U (.inr (p.1 + 1, 0)) := by
  obtain ⟨a, tc, e1, e2, _⟩ := lk_some h
  exact ⟨(a, tc), e1, rpos_lk U q _ e1, e2, e2, Nat.zero_le _, fun z => (by cases z), fun z => (by cases z)⟩
theorem Ivr_wd {U : Tx} {q : Nat × Nat} {w : List Nat} (hI : Ivr U (.inr q)) (h : wAt U (.inr q) = w) (hw : w ≠ []) : ∃ p, lkS U (.inr q) = .inr p ∧ q.1 ≤ p.1 ∧ 0 < w.length ∧ Ivr U (.inr (p.1 + w.length, 1)) := by
  cases hc : lkC U (.inr q) with
  | none => unfold wAt at h; rw [hc] at h; exact absurd h.symm hw
  | some c =>
    obtain ⟨a, tc, e1, e2, _⟩ := lk_some hc
    rw [wAt_of hc e1] at h
    obtain ⟨f1, f2, -⟩ := wrd_end (T := U) _ a rfl
    rw [h] at f1 f2
    exact ⟨(a, tc), e1, rpos_lk U q _ e1, List.length_pos_iff.mpr hw, f1 (by omega), by show 1 ≤ 2; omega, fun _ => f2, fun z => (by cases z)⟩
theorem Ivr_dg {U : Tx} {q p : Nat × Nat} {D : List Nat} (h : dAt U (.inr q) = D) (hD : D ≠ []) (hp : lkS U (.inr q) = .inr p) : Ivr U (.inr (p.1 + D.length, 2)) := by
  cases hc : lkC U (.inr q) with
  | none => unfold dAt at h; rw [hc] at h; exact absurd h.symm hD
  | some c =>
    obtain ⟨a, tc, e1, e2, _⟩ := lk_some hc
    rw [dAt_of hc e1] at h
    rw [e1] at hp
    cases hp
    obtain ⟨f1, f2, -⟩ := dgs_end (T := U) _ a rfl
    rw [h] at f1 f2
    exact ⟨f1 (by omega), Nat.le_refl _, fun z => (by cases z), fun _ => f2⟩
/-- a part; a sum: what comes of it, on the pile too -/
def PaG (U : Tx) (k M : Nat) (q : Nat × Nat) (out w : List Nat) (o : Nat) (r : Xs) : Prop := match r.1 with
  | .inl e => EndF U k (0, (.inr q, out, w, o)) e
  | .inr p => Ivr U (.inr p) ∧ (∃ cs, r.2 = out ++ cs ∧ cs.length + q.1 ≤ p.1 ∧ Tyk k cs false M) ∧ redY U k (0, (.inr q, out, w, o)) (1, qeY (.inr p) r.2 w o)
def PaK (U : Tx) (k n : Nat) (f : Xs → Xs) : Prop := ∀ (q : Nat × Nat) (out w : List Nat) (o : Nat), o + n = 6 → Ivr U (.inr q) → PaG U k (1 + 3 * n) q out w o (f (.inr q, out))
def hdN (p : Nat → Bool) (w : List Nat) : Prop := ∀ e r, w = e :: r → p e = false ∧ e ≠ 34 ∧ e ≠ 35
def SuG (U : Tx) (k M : Nat) (q : Nat × Nat) (out w : List Nat) (o : Nat) (r : Xs) : Prop := match r.1 with
  | .inl e => EndF U k (0, (.inr q, out, w, o)) e
  | .inr p => Ivr U (.inr p) ∧ lkS U (.inr p) = .inr p ∧ (lkC U (.inr p) ≠ some 42 ∧ lkC U (.inr p) ≠ some 47 ∧ lkC U (.inr p) ≠ some 43 ∧ lkC U (.inr p) ≠ some 45) ∧ (∃ cs, r.2 = out ++ cs ∧ cs.length + q.1 ≤ p.1 ∧ Tyk k cs false M) ∧ ∃ pend out1, r.2 = out1 ++ pend ∧ (∀ e, e ∈ pend → isAr e = true) ∧ redY U k (0, (.inr q, out, w, o)) (1, (.inr p, out1, pend ++ w, o))
def SuK (U : Tx) (k n : Nat) (f : Xs → Xs) : Prop := ∀ (q : Nat × Nat) (out w : List Nat) (o : Nat), o + n = 6 → Ivr U (.inr q) → hdN isAr w → SuG U k (3 + 3 * n) q out w o (f (.inr q, out))
theorem ar_br {e : Nat} (h : isAr e = true) : isBr e = false ∧ (36 ≤ e ∧ e ≤ 39) := by
  unfold isAr isMu at h
  simp only [Bool.or_eq_true] at h
  rcases h with ((h | h) | h) | h <;> (rw [Nat.eq_of_beq_eq_true h]; exact ⟨rfl, by decide, by decide⟩)
theorem opA_p {pend w : List Nat} {b : Nat} (hp : ∀ e, e ∈ pend → isAr e = true) (hb : isBr b = true) : opA (pend ++ b :: w) = pend ∧ rsA (pend ++ b :: w) = b :: w := by
  induction pend with
  | nil =>
    constructor
    · show (bif isBr b then [] else b :: opA w) = []; rw [hb]; rfl
    · show (bif isBr b then b :: w else rsA w) = b :: w; rw [hb]; rfl
  | cons e pend ih =>
    have he := (ar_br (hp e List.mem_cons_self)).1
    have ih := ih (fun x hx => hp x (List.mem_cons_of_mem e hx))
    constructor
    · show (bif isBr e then [] else e :: opA (pend ++ b :: w)) = e :: pend
      rw [he, ih.1]; rfl
    · show (bif isBr e then e :: (pend ++ b :: w) else rsA (pend ++ b :: w)) = b :: w
      rw [he, ih.2]; rfl
theorem looked {U : Tx} {p : Nat × Nat} (hI : Ivr U (.inr p)) (h : lkS U (.inr p) = .inr p) : skM U (.inr p) = .inr p ∧ mC U (.inr p) = lkC U (.inr p) := by
  have hc : cfT U p = false := by
    cases hz : cfT U p with
    | false => rfl
    | true => rw [(cf_yes hz).1] at h; cases h
  obtain ⟨e1, e2, -, -⟩ := cf_no hI hc
  exact ⟨e1.symm.trans h, e2.symm⟩
/-- what comes behind what is open: closed, or a fault -/
theorem close_ok {U : Tx} {k M : Nat} {q : Nat × Nat} {out w : List Nat} {o b : Nat} {r : Xs} (hb : b = 1020 ∨ b = 1023 ∨ b = 1024) (h : SuG U k M q out (b :: w) (o + 1) r) :
    match aSg U 41 r.1 with
    | .inl e => EndF U k (0, (.inr q, out, b :: w, o + 1)) e
    | .inr p => ∃ p0, r.1 = .inr p0 ∧ p = (p0.1 + 1, 0) ∧ Ivr U (.inr p) ∧ redY U k (0, (.inr q, out, b :: w, o + 1)) (1, qeY (.inr p) (r.2 ++ (if b = 1020 then [] else if b = 1023 then [45] else [46])) w o) := by
  obtain ⟨s, out'⟩ := r
  cases s with
  | inl e => exact h
  | inr p =>
    obtain ⟨h1, h2, ⟨n1, n2, n3, n4⟩, h3, pend, out1, h4, h5, h6⟩ := h
    have hbr : isBr b = true := by rcases hb with rfl | rfl | rfl <;> rfl
    obtain ⟨o1, o2⟩ := opA_p (w := w) h5 hbr
    obtain ⟨l1, l2⟩ := looked h1 h2
    have hbk : brk (pend ++ b :: w) = b := by unfold brk; rw [o2]; rfl
    have h4 : out' = out1 ++ pend := h4
    by_cases hc : lkC U (.inr p) = some 41
    · have e : aSg U 41 (.inr p) = .inr (p.1 + 1, 0) := by unfold aSg; rw [if_pos hc, h2]; rfl
      show match aSg U 41 (.inr p) with | .inl e => _ | .inr p => _
      rw [e]
      obtain ⟨p', g1, -, g3, g4⟩ := Ivr_sg hc
      rw [h2] at g1
      cases g1
      refine ⟨p, rfl, rfl, g4, h6.tr ((redB rfl).tr ?_)⟩
      have e2 : stB U (.inr p, out1, pend ++ b :: w, o + 1) = (1, qeY (.inr (p.1 + 1, 0)) ((out1 ++ pend) ++ (if b = 1020 then [] else if b = 1023 then [45] else [46])) w o) := by
        unfold stB
        show (if mC U (.inr p) = some 41 ∧ (brk (pend ++ b :: w) = 1020 ∨ brk (pend ++ b :: w) = 1023 ∨ brk (pend ++ b :: w) = 1024) then (1, qeY (adv 1 0 (skM U (.inr p))) ((out1 ++ opA (pend ++ b :: w)) ++ (if brk (pend ++ b :: w) = 1020 then [] else if brk (pend ++ b :: w) = 1023 then [45] else [46])) ((rsA (pend ++ b :: w)).tail) (o + 1 - 1)) else _) = _
        rw [hbk, l2, if_pos ⟨hc, hb⟩, l1, o1, o2]
        rfl
      rw [e2, ← h4]
      exact redY.rf _ _ _
    · have e : aSg U 41 (.inr p) = .inl (1, p.1) := by unfold aSg; rw [if_neg hc, h2]; rfl
      show match aSg U 41 (.inr p) with | .inl e => _ | .inr p => _
      rw [e]
      refine h6.F ((redB rfl).F ?_)
      have e2 : stB U (.inr p, out1, pend ++ b :: w, o + 1) = (2, (.inl (1, p.1), out1, pend ++ b :: w, o + 1)) := by
        unfold stB
        show (if mC U (.inr p) = some 41 ∧ (brk (pend ++ b :: w) = 1020 ∨ brk (pend ++ b :: w) = 1023 ∨ brk (pend ++ b :: w) = 1024) then _ else if mC U (.inr p) = some 42 ∨ mC U (.inr p) = some 47 then _ else if mC U (.inr p) = some 43 ∨ mC U (.inr p) = some 45 then _ else if brk (pend ++ b :: w) = 1021 ∨ brk (pend ++ b :: w) = 1022 then _ else if brk (pend ++ b :: w) = 0 then _ else (2, (flA 1 0 (skM U (.inr p)), (out1, pend ++ b :: w, o + 1)))) = _
        rw [hbk, l2, if_neg (fun z => hc z.1), if_neg (fun z => z.elim n1 n2), if_neg (fun z => z.elim n3 n4), if_neg (by omega), if_neg (by omega), l1]
        rfl
      rw [e2]
      exact endF_inl rfl
theorem comma_ok {U : Tx} {k M : Nat} {q : Nat × Nat} {out w : List Nat} {o b : Nat} {r : Xs} (hb : b = 1021 ∨ b = 1022) (h : SuG U k M q out (b :: w) o r) :
    match aSg U 44 r.1 with
    | .inl e => EndF U k (0, (.inr q, out, b :: w, o)) e
    | .inr p => ∃ p0, r.1 = .inr p0 ∧ p = (p0.1 + 1, 0) ∧ Ivr U (.inr p) ∧ redY U k (0, (.inr q, out, b :: w, o)) (0, (.inr p, r.2, (b + 2) :: w, o)) := by
  obtain ⟨s, out'⟩ := r
  cases s with
  | inl e => exact h
  | inr p =>
    obtain ⟨h1, h2, ⟨n1, n2, n3, n4⟩, h3, pend, out1, h4, h5, h6⟩ := h
    have hbr : isBr b = true := by rcases hb with rfl | rfl <;> rfl
    obtain ⟨o1, o2⟩ := opA_p (w := w) h5 hbr
    obtain ⟨l1, l2⟩ := looked h1 h2
    have hbk : brk (pend ++ b :: w) = b := by unfold brk; rw [o2]; rfl
    have h4 : out' = out1 ++ pend := h4
    have e0 : stB U (.inr p, out1, pend ++ b :: w, o) = if mC U (.inr p) = some 44 then (0, (adv 1 0 (skM U (.inr p)), out1 ++ pend, (b + 2) :: w, o)) else (2, (flA 1 0 (skM U (.inr p)), (out1, pend ++ b :: w, o))) := by
      unfold stB
      show (if mC U (.inr p) = some 41 ∧ (brk (pend ++ b :: w) = 1020 ∨ brk (pend ++ b :: w) = 1023 ∨ brk (pend ++ b :: w) = 1024) then _ else if mC U (.inr p) = some 42 ∨ mC U (.inr p) = some 47 then _ else if mC U (.inr p) = some 43 ∨ mC U (.inr p) = some 45 then _ else if brk (pend ++ b :: w) = 1021 ∨ brk (pend ++ b :: w) = 1022 then (if mC U (.inr p) = some 44 then (0, (adv 1 0 (skM U (.inr p)), out1 ++ opA (pend ++ b :: w), (brk (pend ++ b :: w) + 2) :: (rsA (pend ++ b :: w)).tail, o)) else (2, (flA 1 0 (skM U (.inr p)), (out1, pend ++ b :: w, o)))) else _) = _
      rw [hbk, if_neg (fun z => by omega), if_neg (fun z => by rw [l2] at z; exact z.elim n1 n2), if_neg (fun z => by rw [l2] at z; exact z.elim n3 n4), if_pos hb, o1, o2]
      rfl
    by_cases hc : lkC U (.inr p) = some 44
    · have e : aSg U 44 (.inr p) = .inr (p.1 + 1, 0) := by unfold aSg; rw [if_pos hc, h2]; rfl
      show match aSg U 44 (.inr p) with | .inl e => _ | .inr p => _
      rw [e]
      obtain ⟨p', g1, -, g3, g4⟩ := Ivr_sg hc
      rw [h2] at g1
      cases g1
      refine ⟨p, rfl, rfl, g4, h6.tr ((redB rfl).tr ?_)⟩
      rw [e0, l2, if_pos hc, l1, ← h4]
      exact redY.rf _ _ _
    · have e : aSg U 44 (.inr p) = .inl (1, p.1) := by unfold aSg; rw [if_neg hc, h2]; rfl
      show match aSg U 44 (.inr p) with | .inl e => _ | .inr p => _
      rw [e]
      refine h6.F ((redB rfl).F ?_)
      rw [e0, l2, if_neg hc, l1]
      exact endF_inl rfl
