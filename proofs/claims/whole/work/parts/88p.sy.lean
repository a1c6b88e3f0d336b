/-! A formula read, with what waits on a pile: what the reference's reading comes to; no machine. -/
def skM (U : Tx) : Rdg → Rdg
  | .inl e => .inl e
  | .inr p => .inr (skp U p.1, tcN U p.1 p.2)
def mC (U : Tx) : Rdg → Option Nat
  | .inl _ => none
  | .inr p => if U.1 ≤ skp U p.1 then none else some (U.2 (skp U p.1))
def mWd (U : Tx) : Rdg → List Nat
  | .inl _ => []
  | .inr p => if tcN U p.1 p.2 = 0 then wrd U (skp U p.1) else []
def mDg (U : Tx) : Rdg → List Nat
  | .inl _ => []
  | .inr p => if tcN U p.1 p.2 = 0 then dgs U (skp U p.1) else []
def mNu (U : Tx) (most : Nat) (s : Rdg) : Rdg := if mDg U s = [] then flA 1 0 (skM U s) else if 4 < (mDg U s).length then flA 1 4 (skM U s) else if most < nval (mDg U s) then flA 2 0 (skM U s) else adv (mDg U s).length 2 (skM U s)
def mAs (U : Tx) (c : Nat) (s : Rdg) : Rdg := if mC U s = some c then adv 1 0 (skM U s) else flA 1 0 (skM U s)
/-- what always holds of a place and what it touches -/
def Ivr (U : Tx) : Rdg → Prop
  | .inl _ => True
  | .inr p => p.1 ≤ U.1 ∧ p.2 ≤ 2 ∧ (p.2 = 1 → U.1 ≤ p.1 ∨ ltB (U.2 p.1) = false) ∧ (p.2 = 2 → U.1 ≤ p.1 ∨ dgB (U.2 p.1) = false)
/-- where; the codes; what waits, the latest first; how much is open -/
abbrev Ys : Type := Rdg × List Nat × List Nat × Nat
def qOpY (e : Nat) (y : Ys) : Ys := match y.1 with
  | .inl _ => y
  | .inr p => if y.2.2.2 = 6 then (.inl (4, p.1), y.2) else (.inr p, y.2.1, e :: y.2.2.1, y.2.2.2 + 1)
def onY (f : Rdg → Rdg) (y : Ys) : Ys := (f y.1, y.2)
/-- behind a part: what waits for one is told -/
def qeY (s : Rdg) : List Nat → List Nat → Nat → Ys
  | out, [], o => (s, out, [], o)
  | out, e :: w, o => if (e = 34 ∨ e = 35) ∧ isOk s = true then qeY s (out ++ [e]) w (o - 1) else (s, out, e :: w, o)
def isBr (e : Nat) : Bool := Nat.ble 1020 e && Nat.ble e 1024
def opA : List Nat → List Nat
  | [] => []
  | e :: w => bif isBr e then [] else e :: opA w
def rsA : List Nat → List Nat
  | [] => []
  | e :: w => bif isBr e then e :: w else rsA w
/-- what is open last -/
def brk (w : List Nat) : Nat := (rsA w).headD 0
def isMu (e : Nat) : Bool := Nat.beq e 38 || Nat.beq e 39
def isAr (e : Nat) : Bool := isMu e || Nat.beq e 36 || Nat.beq e 37
def tkW (p : Nat → Bool) : List Nat → List Nat
  | [] => []
  | e :: w => bif p e then e :: tkW p w else []
def drW (p : Nat → Bool) : List Nat → List Nat
  | [] => []
  | e :: w => bif p e then drW p w else e :: w
def ofR (k : Nat) (w : List Nat) : Option Nat := if k = 4 ∧ w = wKnows then some 34 else if k = 4 ∧ w = wReady then some 35 else none
/-- behind min, max -/
def stM (U : Tx) (e : Nat) (y : Ys) : Nat × Ys := (0, onY (mAs U 40) (if mC U y.1 = some 40 then qOpY e (skM U y.1, y.2) else (skM U y.1, y.2)))
/-- a part is asked: one turn -/
def stA (U : Tx) (k : Nat) (y : Ys) : Nat × Ys :=
  if mC U y.1 = some 40 then (0, onY (adv 1 0) (qOpY 1020 (skM U y.1, y.2)))
  else if mWd U y.1 = wMin then stM U 1021 (adv 3 1 (skM U y.1), y.2)
  else if mWd U y.1 = wMax then stM U 1022 (adv 3 1 (skM U y.1), y.2)
  else match ofR k (mWd U y.1) with
    | some e => (0, onY (adv (mWd U y.1).length 1) (qOpY e (skM U y.1, y.2)))
    | none => match sgF k (mWd U y.1) with
      | some i => (1, qeY (adv (mWd U y.1).length 1 (skM U y.1)) (y.2.1 ++ [i]) y.2.2.1 y.2.2.2)
      | none => (1, qeY (mNu U 9999 y.1) (y.2.1 ++ [256 * nval (mDg U y.1) + 32]) y.2.2.1 y.2.2.2)
/-- behind a part: one turn -/
def stB (U : Tx) (y : Ys) : Nat × Ys :=
  if mC U y.1 = some 41 ∧ (brk y.2.2.1 = 1020 ∨ brk y.2.2.1 = 1023 ∨ brk y.2.2.1 = 1024) then
    (1, qeY (adv 1 0 (skM U y.1)) ((y.2.1 ++ opA y.2.2.1) ++ (if brk y.2.2.1 = 1020 then [] else if brk y.2.2.1 = 1023 then [45] else [46])) ((rsA y.2.2.1).tail) (y.2.2.2 - 1))
  else if mC U y.1 = some 42 ∨ mC U y.1 = some 47 then (0, (adv 1 0 (skM U y.1), y.2.1 ++ tkW isMu y.2.2.1, (if mC U y.1 = some 42 then 38 else 39) :: drW isMu y.2.2.1, y.2.2.2))
  else if mC U y.1 = some 43 ∨ mC U y.1 = some 45 then (0, (adv 1 0 (skM U y.1), y.2.1 ++ tkW isAr y.2.2.1, (if mC U y.1 = some 43 then 36 else 37) :: drW isAr y.2.2.1, y.2.2.2))
  else if brk y.2.2.1 = 1021 ∨ brk y.2.2.1 = 1022 then (if mC U y.1 = some 44 then (0, (adv 1 0 (skM U y.1), y.2.1 ++ opA y.2.2.1, (brk y.2.2.1 + 2) :: (rsA y.2.2.1).tail, y.2.2.2)) else (2, (flA 1 0 (skM U y.1), y.2)))
  else if brk y.2.2.1 = 0 then (2, (skM U y.1, y.2)) else (2, (flA 1 0 (skM U y.1), y.2))
def runY (U : Tx) (k : Nat) : Nat → Nat × Ys → Option Ys
  | 0, _ => none
  | f + 1, c => if isOk c.2.1 = false ∨ c.1 = 2 then some c.2 else runY U k f (if c.1 = 0 then stA U k c.2 else stB U c.2)
def Ends (U : Tx) (k : Nat) (c : Nat × Ys) (r : Ys) : Prop := ∃ f, runY U k f c = some r
def redY (U : Tx) (k : Nat) (c c' : Nat × Ys) : Prop := ∀ r, Ends U k c' r → Ends U k c r
/-- it ends by a fault, seen or about to be seen -/
def EndF (U : Tx) (k : Nat) (c : Nat × Ys) (e : Nat × Nat) : Prop := ∃ r, Ends U k c r ∧ lkS U r.1 = .inl e
theorem redY.rf (U : Tx) (k : Nat) (c : Nat × Ys) : redY U k c c := fun _ h => h
theorem redY.tr {U : Tx} {k : Nat} {a b c : Nat × Ys} (h : redY U k a b) (h2 : redY U k b c) : redY U k a c := fun r q => h r (h2 r q)
theorem redY.F {U : Tx} {k : Nat} {a b : Nat × Ys} {e : Nat × Nat} (h : redY U k a b) (h2 : EndF U k b e) : EndF U k a e := by
  obtain ⟨r, q1, q2⟩ := h2
  exact ⟨r, h r q1, q2⟩
theorem redA {U : Tx} {k : Nat} {y : Ys} (h : isOk y.1 = true) : redY U k (0, y) (stA U k y) := by
  rintro r ⟨f, hf⟩
  refine ⟨f + 1, ?_⟩
  show (if isOk y.1 = false ∨ (0 : Nat) = 2 then some y else runY U k f (if (0 : Nat) = 0 then stA U k y else stB U y)) = _
  rw [if_neg (by rw [h]; intro z; rcases z with z | z <;> cases z), if_pos rfl]
  exact hf
theorem redB {U : Tx} {k : Nat} {y : Ys} (h : isOk y.1 = true) : redY U k (1, y) (stB U y) := by
  rintro r ⟨f, hf⟩
  refine ⟨f + 1, ?_⟩
  show (if isOk y.1 = false ∨ (1 : Nat) = 2 then some y else runY U k f (if (1 : Nat) = 0 then stA U k y else stB U y)) = _
  rw [if_neg (by rw [h]; intro z; rcases z with z | z <;> cases z), if_neg (by decide)]
  exact hf
theorem endF_inl {U : Tx} {k c : Nat} {y : Ys} {e : Nat × Nat} (h : y.1 = .inl e) : EndF U k (c, y) e := by
  refine ⟨y, ⟨1, ?_⟩, by rw [h]; rfl⟩
  show (if isOk y.1 = false ∨ c = 2 then some y else runY U k 0 (if c = 0 then stA U k y else stB U y)) = some y
  rw [if_pos (Or.inl (by rw [h]; rfl))]
theorem endF_2 {U : Tx} {k : Nat} {y : Ys} {e : Nat × Nat} (h : lkS U y.1 = .inl e) : EndF U k (2, y) e := by
  refine ⟨y, ⟨1, ?_⟩, h⟩
  show (if isOk y.1 = false ∨ (2 : Nat) = 2 then some y else _) = some y
  rw [if_pos (Or.inr rfl)]
/-- a word or a number that runs into the other -/
def cfT (U : Tx) (p : Nat × Nat) : Bool := Nat.blt (skp U p.1) U.1 && cfl U (skp U p.1) (tcN U p.1 p.2)
theorem cf_yes {U : Tx} {p : Nat × Nat} (h : cfT U p = true) : lkS U (.inr p) = .inl (1, skp U p.1) ∧ lkC U (.inr p) = none ∧ wAt U (.inr p) = [] ∧ dAt U (.inr p) = [] ∧ mWd U (.inr p) = [] ∧ mDg U (.inr p) = [] ∧ ∃ c, mC U (.inr p) = some c ∧ (dgB c = true ∨ ltB c = true) := by
  unfold cfT at h
  rw [Bool.and_eq_true, Nat.blt_eq] at h
  obtain ⟨h1, h2⟩ := h
  obtain ⟨e1, e2⟩ := (lk_r (U := U) p).2.1 h1 h2
  have h0 : tcN U p.1 p.2 ≠ 0 := fun z => by unfold cfl at h2; rw [z] at h2; cases h2
  refine ⟨e1, e2, by unfold wAt; rw [e2], by unfold dAt; rw [e2], if_neg h0, if_neg h0, U.2 (skp U p.1), by unfold mC; exact if_neg (by omega), ?_⟩
  unfold cfl at h2
  rw [Bool.or_eq_true, Bool.and_eq_true, Bool.and_eq_true] at h2
  rcases h2 with z | z
  · exact Or.inl z.2
  · exact Or.inr z.2
theorem cf_no {U : Tx} {p : Nat × Nat} (hI : Ivr U (.inr p)) (h : cfT U p = false) : lkS U (.inr p) = skM U (.inr p) ∧ lkC U (.inr p) = mC U (.inr p) ∧ wAt U (.inr p) = mWd U (.inr p) ∧ dAt U (.inr p) = mDg U (.inr p) := by
  obtain ⟨i1, i2, i3, i4⟩ := hI
  by_cases hend : U.1 ≤ skp U p.1
  · obtain ⟨e1, e2⟩ := (lk_r (U := U) p).1 hend
    have w0 : wrd U (skp U p.1) = [] := wrd_e (Or.inl hend)
    have d0 : dgs U (skp U p.1) = [] := dgs_e (Or.inl hend)
    refine ⟨e1, by rw [e2]; unfold mC; exact (if_pos hend).symm, ?_, ?_⟩
    · unfold wAt mWd
      rw [e2]
      show [] = (if tcN U p.1 p.2 = 0 then wrd U (skp U p.1) else [])
      rw [w0]
      split <;> rfl
    · unfold dAt mDg
      rw [e2]
      show [] = (if tcN U p.1 p.2 = 0 then dgs U (skp U p.1) else [])
      rw [d0]
      split <;> rfl
  · have hlt : skp U p.1 < U.1 := by omega
    have hc : cfl U (skp U p.1) (tcN U p.1 p.2) = false := by
      unfold cfT at h
      rw [show Nat.blt (skp U p.1) U.1 = true from Nat.blt_eq.mpr hlt] at h
      exact h
    obtain ⟨e1, e2⟩ := (lk_r (U := U) p).2.2 hlt hc
    refine ⟨e1, by rw [e2]; unfold mC; exact (if_neg hend).symm, ?_, ?_⟩
    · rw [wAt_of e2 e1]
      unfold mWd
      by_cases h0 : tcN U p.1 p.2 = 0
      · exact (if_pos h0).symm
      · refine Eq.trans ?_ (if_neg h0).symm
        refine wrd_e (Or.inr ?_)
        have hq : skp U p.1 = p.1 := by
          unfold tcN at h0
          by_cases z : skp U p.1 = p.1
          · exact z
          · rw [if_neg z] at h0; exact absurd rfl h0
        have ht : tcN U p.1 p.2 = p.2 := by unfold tcN; exact if_pos hq
        rw [ht] at h0 hc
        rw [hq] at hc ⊢
        rcases (by omega : p.2 = 1 ∨ p.2 = 2) with z | z
        · rcases i3 z with q | q
          · omega
          · exact q
        · unfold cfl at hc
          rw [z] at hc
          cases hl : ltB (U.2 p.1) with
          | false => rfl
          | true => rw [hl] at hc; cases hc
    · rw [dAt_of e2 e1]
      unfold mDg
      by_cases h0 : tcN U p.1 p.2 = 0
      · exact (if_pos h0).symm
      · refine Eq.trans ?_ (if_neg h0).symm
        refine dgs_e (Or.inr ?_)
        have hq : skp U p.1 = p.1 := by
          unfold tcN at h0
          by_cases z : skp U p.1 = p.1
          · exact z
          · rw [if_neg z] at h0; exact absurd rfl h0
        have ht : tcN U p.1 p.2 = p.2 := by unfold tcN; exact if_pos hq
        rw [ht] at h0 hc
        rw [hq] at hc ⊢
        rcases (by omega : p.2 = 1 ∨ p.2 = 2) with z | z
        · unfold cfl at hc
          rw [z] at hc
          cases hl : dgB (U.2 p.1) with
          | false => rfl
          | true => rw [hl] at hc; cases hc
        · rcases i4 z with q | q
          · omega
          · exact q
theorem skM_i (U : Tx) (s : Rdg) : skM U (skM U s) = skM U s ∧ mC U (skM U s) = mC U s ∧ mWd U (skM U s) = mWd U s ∧ mDg U (skM U s) = mDg U s := by
  cases s with
  | inl e => exact ⟨rfl, rfl, rfl, rfl⟩
  | inr p =>
    unfold skM mC mWd mDg
    simp only [skp_id, tcN_id]
    exact ⟨trivial, trivial, trivial, trivial⟩
theorem stB_sk (U : Tx) (s : Rdg) (r : List Nat × List Nat × Nat) : stB U (skM U s, r) = stB U (s, r) := by
  unfold stB
  simp only [(skM_i U s).1, (skM_i U s).2.1]
/-- it stands where a look has been: it may be taken so -/
theorem redLk {U : Tx} {k : Nat} {q p : Nat × Nat} (hI : Ivr U (.inr q)) (h : lkS U (.inr q) = .inr p) (r : List Nat × List Nat × Nat) : redY U k (1, (.inr q, r)) (1, (.inr p, r)) := by
  have hc : cfT U q = false := by
    cases hz : cfT U q with
    | false => rfl
    | true => rw [(cf_yes hz).1] at h; cases h
  rw [(cf_no hI hc).1] at h
  rintro r' ⟨f, hf⟩
  refine ⟨f, ?_⟩
  cases f with
  | zero => cases hf
  | succ f =>
    have e1 : runY U k (f + 1) (1, (.inr q, r)) = runY U k f (stB U (.inr q, r)) := by
      show (if isOk (.inr q) = false ∨ (1 : Nat) = 2 then _ else _) = _
      rw [if_neg (by intro z; rcases z with z | z <;> cases z)]
      rfl
    have e2 : runY U k (f + 1) (1, (.inr p, r)) = runY U k f (stB U (.inr p, r)) := by
      show (if isOk (.inr p) = false ∨ (1 : Nat) = 2 then _ else _) = _
      rw [if_neg (by intro z; rcases z with z | z <;> cases z)]
      rfl
    rw [e1, ← stB_sk, h, ← e2]
    exact hf
theorem aln {c : Nat} (h : dgB c = true ∨ ltB c = true) : c ≠ 40 ∧ c ≠ 41 ∧ c ≠ 42 ∧ c ≠ 43 ∧ c ≠ 44 ∧ c ≠ 45 ∧ c ≠ 47 ∧ c ≠ 91 ∧ c ≠ 93 ∧ c ≠ 59 ∧ c ≠ 60 ∧ c ≠ 61 ∧ c ≠ 62 := by
  rcases h with h | h
  · have := dgB_r h; omega
  · have := ltB_r h; omega
theorem cf_A {U : Tx} {k : Nat} {p : Nat × Nat} (h : cfT U p = true) (r : List Nat × List Nat × Nat) : EndF U k (0, (.inr p, r)) (1, skp U p.1) := by
  obtain ⟨-, -, -, -, h5, h6, c, h7, h8⟩ := cf_yes h
  have ha := aln h8
  refine (redA rfl).F ?_
  have e : stA U k (.inr p, r) = (1, qeY (.inl (1, skp U p.1)) (r.1 ++ [256 * nval (mDg U (.inr p)) + 32]) r.2.1 r.2.2) := by
    unfold stA
    rw [h7, if_neg (fun z => ha.1 (Option.some.inj z)), h5, if_neg (by decide), if_neg (by decide)]
    have o : ofR k [] = none := by unfold ofR; rw [if_neg (fun z => absurd z.2 (by decide)), if_neg (fun z => absurd z.2 (by decide))]
    have g : sgF k [] = none := by
      unfold sgF
      rw [if_neg (by decide), if_neg (fun z => absurd z.2 (by decide)), if_neg (fun z => absurd z.2 (by decide)), if_neg (fun z => absurd z.2 (by decide)), if_neg (fun z => absurd z.2 (by decide)), if_neg (fun z => absurd z.2 (by decide)), if_neg (fun z => absurd z.2 (by decide)), if_neg (fun z => absurd z.2 (by decide)), if_neg (fun z => absurd z.2 (by decide))]
    rw [o, g]
    show (1, qeY (mNu U 9999 (.inr p)) _ _ _) = _
    unfold mNu
    rw [if_pos h6]
    rfl
  rw [e]
  have q : ∀ (w out : List Nat) (o : Nat) (e : Nat × Nat), (qeY (.inl e) out w o).1 = .inl e := by
    intro w out o e
    cases w with
    | nil => rfl
    | cons a w =>
      show (if (a = 34 ∨ a = 35) ∧ isOk (.inl e) = true then _ else ((.inl e : Rdg), out, a :: w, o)).1 = _
      rw [if_neg (fun z => by cases z.2)]
  exact endF_inl (q _ _ _ _)
theorem cf_B {U : Tx} {k : Nat} {p : Nat × Nat} (h : cfT U p = true) (r : List Nat × List Nat × Nat) : EndF U k (1, (.inr p, r)) (1, skp U p.1) := by
  obtain ⟨h1, -, -, -, h5, h6, c, h7, h8⟩ := cf_yes h
  have ha := aln h8
  have ne : ∀ x, c ≠ x → ¬ (some c = some x) := fun x hx z => hx (Option.some.inj z)
  have hm : lkS U (skM U (.inr p)) = .inl (1, skp U p.1) := by
    have : cfT U (skp U p.1, tcN U p.1 p.2) = true := by
      unfold cfT at h ⊢
      show (Nat.blt (skp U (skp U p.1)) U.1 && cfl U (skp U (skp U p.1)) (tcN U (skp U p.1) (tcN U p.1 p.2))) = true
      rw [skp_id, tcN_id]; exact h
    have := (cf_yes this).1
    rw [skp_id] at this
    exact this
  refine (redB rfl).F ?_
  unfold stB
  rw [h7, if_neg (fun z => ne 41 ha.2.1 z.1), if_neg (fun z => z.elim (ne 42 ha.2.2.1) (ne 47 ha.2.2.2.2.2.2.1)), if_neg (fun z => z.elim (ne 43 ha.2.2.2.1) (ne 45 ha.2.2.2.2.2.1)), if_neg (ne 44 ha.2.2.2.2.1)]
  split
  · exact endF_inl rfl
  · split
    · exact endF_2 hm
    · exact endF_inl rfl
