/-! A formula read, with what waits on a pile: tests; no machine. -/
def dnZ (s : Rdg) : List Nat → List Nat → Nat → Ys
  | out, [], o => (s, out, [], o)
  | out, e :: u, o => if e = 33 ∧ isOk s = true then dnZ s (out ++ [e]) u (o - 1) else (s, out, e :: u, o)
def qsF (U : Tx) (k f : Nat) (s : Rdg) (out : List Nat) (o : Nat) : Option Xs := (runY U k f (0, (s, out, [], o))).map (fun y => (y.1, y.2.1 ++ y.2.2.1))
def sgQ (c : Option Nat) : Option Nat := if c = some 60 then some 40 else if c = some 62 then some 41 else if c = some 61 then some 42 else none
def stZ (U : Tx) (k f : Nat) (z : Ys) : Option (Nat × Ys) :=
  if mC U z.1 = some 91 then some (0, onY (adv 1 0) (qOpY 1025 (skM U z.1, z.2)))
  else if mWd U z.1 = wNot then some (0, onY (adv 3 1) (qOpY 33 (skM U z.1, z.2)))
  else if mWd U z.1 = wAll then some (1, dnZ (adv 3 1 (skM U z.1)) (z.2.1 ++ [47]) z.2.2.1 z.2.2.2)
  else (qsF U k f (skM U z.1) z.2.1 z.2.2.2).bind (fun r => bif isOk r.1 then
      (match sgQ (mC U r.1) with
        | none => some (1, (flA 1 0 (skM U r.1), r.2, z.2.2))
        | some t => (qsF U k f (adv 1 0 (skM U r.1)) r.2 z.2.2.2).bind (fun r2 => some (1, dnZ r2.1 (r2.2 ++ [t]) z.2.2.1 z.2.2.2)))
    else some (1, (r.1, r.2, z.2.2)))
def isAn (e : Nat) : Bool := Nat.beq e 43
def isLo (e : Nat) : Bool := Nat.beq e 43 || Nat.beq e 44
def nSq (e : Nat) : Bool := !(Nat.beq e 1025)
def stU (U : Tx) (z : Ys) : Nat × Ys :=
  if mC U z.1 = some 93 ∧ 1025 ∈ z.2.2.1 then (1, dnZ (adv 1 0 (skM U z.1)) (z.2.1 ++ tkW nSq z.2.2.1) ((drW nSq z.2.2.1).tail) (z.2.2.2 - 1))
  else if mWd U z.1 = wAnd then (0, (adv 3 1 (skM U z.1), z.2.1 ++ tkW isAn z.2.2.1, 43 :: drW isAn z.2.2.1, z.2.2.2))
  else if mWd U z.1 = wOr then (0, (adv 2 1 (skM U z.1), z.2.1 ++ tkW isLo z.2.2.1, 44 :: drW isLo z.2.2.1, z.2.2.2))
  else if 1025 ∈ z.2.2.1 then (2, (flA 1 0 (skM U z.1), z.2)) else (2, (skM U z.1, z.2))
def runZ (U : Tx) (k : Nat) : Nat → Nat × Ys → Option Ys
  | 0, _ => none
  | f + 1, c => if isOk c.2.1 = false ∨ c.1 = 2 then some c.2 else if c.1 = 0 then (stZ U k f c.2).bind (runZ U k f) else runZ U k f (stU U c.2)
theorem runY_up {U : Tx} {k : Nat} : ∀ (f : Nat) (c : Nat × Ys) (r : Ys), runY U k f c = some r → ∀ g, f ≤ g → runY U k g c = some r := by
  intro f
  induction f with
  | zero => intro c r h; cases h
  | succ f ih =>
    intro c r h g hg
    obtain ⟨g, rfl⟩ : ∃ e, g = e + 1 := ⟨g - 1, by omega⟩
    have h : (if isOk c.2.1 = false ∨ c.1 = 2 then some c.2 else runY U k f (if c.1 = 0 then stA U k c.2 else stB U c.2)) = some r := h
    show (if isOk c.2.1 = false ∨ c.1 = 2 then some c.2 else runY U k g (if c.1 = 0 then stA U k c.2 else stB U c.2)) = some r
    split at h
    · rw [if_pos (by assumption)]; exact h
    · rw [if_neg (by assumption)]; exact ih _ _ h g (by omega)
theorem qsF_up {U : Tx} {k f g : Nat} {s : Rdg} {out : List Nat} {o : Nat} {r : Xs} (h : qsF U k f s out o = some r) (hg : f ≤ g) : qsF U k g s out o = some r := by
  unfold qsF at h ⊢
  cases hr : runY U k f (0, (s, out, [], o)) with
  | none => rw [hr] at h; cases h
  | some y => rw [hr] at h; rw [runY_up f _ _ hr g hg]; exact h
theorem stZ_up {U : Tx} {k f g : Nat} {z : Ys} {c : Nat × Ys} (h : stZ U k f z = some c) (hg : f ≤ g) : stZ U k g z = some c := by
  unfold stZ at h ⊢
  by_cases h1 : mC U z.1 = some 91
  · rw [if_pos h1] at h ⊢; exact h
  · rw [if_neg h1] at h ⊢
    by_cases h2 : mWd U z.1 = wNot
    · rw [if_pos h2] at h ⊢; exact h
    · rw [if_neg h2] at h ⊢
      by_cases h3 : mWd U z.1 = wAll
      · rw [if_pos h3] at h ⊢; exact h
      · rw [if_neg h3] at h ⊢
        cases hq : qsF U k f (skM U z.1) z.2.1 z.2.2.2 with
        | none => rw [hq] at h; cases h
        | some r =>
          rw [hq] at h
          rw [qsF_up hq hg]
          have h : (bif isOk r.1 then (match sgQ (mC U r.1) with | none => some (1, (flA 1 0 (skM U r.1), r.2, z.2.2)) | some t => (qsF U k f (adv 1 0 (skM U r.1)) r.2 z.2.2.2).bind (fun r2 => some (1, dnZ r2.1 (r2.2 ++ [t]) z.2.2.1 z.2.2.2))) else some (1, (r.1, r.2, z.2.2))) = some c := h
          show (bif isOk r.1 then (match sgQ (mC U r.1) with | none => some (1, (flA 1 0 (skM U r.1), r.2, z.2.2)) | some t => (qsF U k g (adv 1 0 (skM U r.1)) r.2 z.2.2.2).bind (fun r2 => some (1, dnZ r2.1 (r2.2 ++ [t]) z.2.2.1 z.2.2.2))) else some (1, (r.1, r.2, z.2.2))) = some c
          cases ho : isOk r.1 with
          | false => rw [ho] at h; exact h
          | true =>
            rw [ho] at h
            cases hs : sgQ (mC U r.1) with
            | none => rw [hs] at h; exact h
            | some t =>
              rw [hs] at h
              cases hq2 : qsF U k f (adv 1 0 (skM U r.1)) r.2 z.2.2.2 with
              | none => rw [hq2] at h; cases h
              | some r2 =>
                rw [hq2] at h
                show (qsF U k g (adv 1 0 (skM U r.1)) r.2 z.2.2.2).bind _ = some c
                rw [qsF_up hq2 hg]
                exact h
theorem runZ_up {U : Tx} {k : Nat} : ∀ (f : Nat) (c : Nat × Ys) (r : Ys), runZ U k f c = some r → ∀ g, f ≤ g → runZ U k g c = some r := by
  intro f
  induction f with
  | zero => intro c r h; cases h
  | succ f ih =>
    intro c r h g hg
    obtain ⟨g, rfl⟩ : ∃ e, g = e + 1 := ⟨g - 1, by omega⟩
    have h : (if isOk c.2.1 = false ∨ c.1 = 2 then some c.2 else if c.1 = 0 then (stZ U k f c.2).bind (runZ U k f) else runZ U k f (stU U c.2)) = some r := h
    show (if isOk c.2.1 = false ∨ c.1 = 2 then some c.2 else if c.1 = 0 then (stZ U k g c.2).bind (runZ U k g) else runZ U k g (stU U c.2)) = some r
    by_cases h1 : isOk c.2.1 = false ∨ c.1 = 2
    · rw [if_pos h1] at h ⊢; exact h
    · rw [if_neg h1] at h ⊢
      by_cases h2 : c.1 = 0
      · rw [if_pos h2] at h ⊢
        cases hs : stZ U k f c.2 with
        | none => rw [hs] at h; cases h
        | some c' =>
          rw [hs] at h
          rw [stZ_up hs (show f ≤ g by omega)]
          exact ih c' r h g (by omega)
      · rw [if_neg h2] at h ⊢
        exact ih _ _ h g (by omega)
def EndZ (U : Tx) (k : Nat) (c : Nat × Ys) (r : Ys) : Prop := ∃ f, runZ U k f c = some r
def redZ (U : Tx) (k : Nat) (c c' : Nat × Ys) : Prop := ∀ r, EndZ U k c' r → EndZ U k c r
def EZF (U : Tx) (k : Nat) (c : Nat × Ys) (e : Nat × Nat) : Prop := ∃ r, EndZ U k c r ∧ lkS U r.1 = .inl e
theorem redZ.rf (U : Tx) (k : Nat) (c : Nat × Ys) : redZ U k c c := fun _ h => h
theorem redZ.tr {U : Tx} {k : Nat} {a b c : Nat × Ys} (h : redZ U k a b) (h2 : redZ U k b c) : redZ U k a c := fun r q => h r (h2 r q)
theorem redZ.F {U : Tx} {k : Nat} {a b : Nat × Ys} {e : Nat × Nat} (h : redZ U k a b) (h2 : EZF U k b e) : EZF U k a e := by
  obtain ⟨r, q1, q2⟩ := h2
  exact ⟨r, h r q1, q2⟩
theorem redT {U : Tx} {k f : Nat} {z : Ys} {c : Nat × Ys} (h : isOk z.1 = true) (hs : stZ U k f z = some c) : redZ U k (0, z) c := by
  rintro r ⟨g, hg⟩
  refine ⟨(f + g) + 1, ?_⟩
  show (if isOk z.1 = false ∨ (0 : Nat) = 2 then some z else if (0 : Nat) = 0 then (stZ U k (f + g) z).bind (runZ U k (f + g)) else _) = some r
  rw [if_neg (by rw [h]; intro q; rcases q with q | q <;> cases q), if_pos rfl, stZ_up hs (Nat.le_add_right f g)]
  exact runZ_up g c r hg (f + g) (Nat.le_add_left g f)
theorem redU {U : Tx} {k : Nat} {z : Ys} (h : isOk z.1 = true) : redZ U k (1, z) (stU U z) := by
  rintro r ⟨f, hf⟩
  refine ⟨f + 1, ?_⟩
  show (if isOk z.1 = false ∨ (1 : Nat) = 2 then some z else if (1 : Nat) = 0 then _ else runZ U k f (stU U z)) = some r
  rw [if_neg (by rw [h]; intro q; rcases q with q | q <;> cases q), if_neg (by decide)]
  exact hf
theorem ezf_inl {U : Tx} {k c : Nat} {z : Ys} {e : Nat × Nat} (h : z.1 = .inl e) : EZF U k (c, z) e := by
  refine ⟨z, ⟨1, ?_⟩, by rw [h]; rfl⟩
  show (if isOk z.1 = false ∨ c = 2 then some z else _) = some z
  rw [if_pos (Or.inl (by rw [h]; rfl))]
theorem ezf_2 {U : Tx} {k : Nat} {z : Ys} {e : Nat × Nat} (h : lkS U z.1 = .inl e) : EZF U k (2, z) e := by
  refine ⟨z, ⟨1, ?_⟩, h⟩
  show (if isOk z.1 = false ∨ (2 : Nat) = 2 then some z else _) = some z
  rw [if_pos (Or.inr rfl)]
theorem dnZ_of {p : Nat × Nat} {out u : List Nat} {o : Nat} : dnZ (.inr p) out (33 :: u) (o + 1) = dnZ (.inr p) (out ++ [33]) u o := by
  show (if (33 : Nat) = 33 ∧ isOk (.inr p) = true then dnZ (.inr p) (out ++ [33]) u (o + 1 - 1) else _) = _
  rw [if_pos ⟨rfl, rfl⟩]; rfl
theorem dnZ_n {s : Rdg} {out u : List Nat} {o : Nat} (h : ∀ e r, u = e :: r → e ≠ 33) : dnZ s out u o = (s, out, u, o) := by
  cases u with
  | nil => rfl
  | cons e u =>
    show (if e = 33 ∧ isOk s = true then _ else _) = _
    rw [if_neg (fun z => h e u rfl z.1)]
theorem dnZ_s (s : Rdg) : ∀ (u out : List Nat) (o : Nat), (dnZ s out u o).1 = s := by
  intro u
  induction u with
  | nil => intro out o; rfl
  | cons e u ih =>
    intro out o
    show (if e = 33 ∧ isOk s = true then dnZ s (out ++ [e]) u (o - 1) else (s, out, e :: u, o)).1 = s
    split
    · exact ih _ _
    · rfl
/-- a sum read whole -/
theorem qs_ok {U : Tx} {k n M : Nat} {q : Nat × Nat} {out : List Nat} {o : Nat} {r : Xs} (h : SuG U k M q out [] o r) : match r.1 with
    | .inl e => ∃ f r', qsF U k f (.inr q) out o = some r' ∧ lkS U r'.1 = .inl e
    | .inr _ => ∃ f, qsF U k f (.inr q) out o = some r := by
  obtain ⟨s, out'⟩ := r
  cases s with
  | inl e =>
    obtain ⟨y, ⟨f, hf⟩, he⟩ := h
    exact ⟨f, (y.1, y.2.1 ++ y.2.2.1), by unfold qsF; rw [hf]; rfl, he⟩
  | inr p =>
    obtain ⟨h1, h2, ⟨n1, n2, n3, n4⟩, h3, pend, out1, h4, h5, h6⟩ := h
    obtain ⟨l1, l2⟩ := looked h1 h2
    have hrs : rsA pend = [] := by
      clear h4 h6
      induction pend with
      | nil => rfl
      | cons e pend ih =>
        have he := (ar_br (h5 e List.mem_cons_self)).1
        show (bif isBr e then _ else rsA pend) = []
        rw [he]
        exact ih (fun x hx => h5 x (List.mem_cons_of_mem e hx))
    have hbk : brk (pend ++ []) = 0 := by unfold brk; rw [List.append_nil, hrs]; rfl
    have eB : stB U (.inr p, out1, pend ++ [], o) = (2, (.inr p, out1, pend ++ [], o)) := by
      unfold stB
      show (if mC U (.inr p) = some 41 ∧ (brk (pend ++ []) = 1020 ∨ brk (pend ++ []) = 1023 ∨ brk (pend ++ []) = 1024) then _ else if mC U (.inr p) = some 42 ∨ mC U (.inr p) = some 47 then _ else if mC U (.inr p) = some 43 ∨ mC U (.inr p) = some 45 then _ else if brk (pend ++ []) = 1021 ∨ brk (pend ++ []) = 1022 then _ else if brk (pend ++ []) = 0 then (2, (skM U (.inr p), (out1, pend ++ [], o))) else _) = _
      rw [hbk, if_neg (fun z => by omega), if_neg (fun z => by rw [l2] at z; exact z.elim n1 n2), if_neg (fun z => by rw [l2] at z; exact z.elim n3 n4), if_neg (by omega), if_pos rfl, l1]
    have hend : Ends U k (1, (.inr p, out1, pend ++ [], o)) (.inr p, out1, pend ++ [], o) := by
      refine redB rfl _ ?_
      rw [eB]
      exact ⟨1, by show (if isOk (.inr p) = false ∨ (2 : Nat) = 2 then some _ else _) = _; rw [if_pos (Or.inr rfl)]⟩
    obtain ⟨f, hf⟩ := h6 _ hend
    refine ⟨f, ?_⟩
    unfold qsF
    rw [hf]
    show some ((.inr p : Rdg), out1 ++ (pend ++ [])) = some (.inr p, out')
    rw [List.append_nil, ← h4]
theorem cf_of {U : Tx} {p : Nat × Nat} {e : Nat × Nat} (h : lkS U (.inr p) = .inl e) : cfT U p = true ∧ e = (1, skp U p.1) := by
  obtain ⟨r1, r2, r3⟩ := lk_r (U := U) p
  by_cases hend : U.1 ≤ skp U p.1
  · rw [(r1 hend).1] at h; cases h
  · have hlt : skp U p.1 < U.1 := by omega
    cases hc : cfl U (skp U p.1) (tcN U p.1 p.2) with
    | false => rw [(r3 hlt hc).1] at h; cases h
    | true =>
      rw [(r2 hlt hc).1] at h
      cases h
      exact ⟨by unfold cfT; rw [hc, show Nat.blt (skp U p.1) U.1 = true from Nat.blt_eq.mpr hlt]; rfl, rfl⟩
/-- a conflict where a fact has been -/
theorem cf_U {U : Tx} {k : Nat} {p : Nat × Nat} (h : cfT U p = true) (r : List Nat × List Nat × Nat) : EZF U k (1, (.inr p, r)) (1, skp U p.1) := by
  obtain ⟨h1, -, -, -, h5, h6, c, h7, h8⟩ := cf_yes h
  have ha := aln h8
  have hm : lkS U (skM U (.inr p)) = .inl (1, skp U p.1) := by
    have : cfT U (skp U p.1, tcN U p.1 p.2) = true := by
      unfold cfT at h ⊢
      show (Nat.blt (skp U (skp U p.1)) U.1 && cfl U (skp U (skp U p.1)) (tcN U (skp U p.1) (tcN U p.1 p.2))) = true
      rw [skp_id, tcN_id]; exact h
    have := (cf_yes this).1
    rw [skp_id] at this
    exact this
  refine (redU rfl).F ?_
  unfold stU
  rw [h7, if_neg (fun z => ha.2.2.2.2.2.2.2.2.1 (Option.some.inj z.1)), h5, if_neg (by decide), if_neg (by decide)]
  split
  · exact ezf_inl rfl
  · exact ezf_2 hm
