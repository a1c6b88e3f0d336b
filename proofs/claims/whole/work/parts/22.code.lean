/-! Formulas as rows of tokens: what they tell, which are well made; the class's pile. -/
def sOk (k s : Nat) : Bool := bif Nat.beq k 0 then Nat.beq s 0 else bif Nat.beq k 2 then Nat.blt s 4 || Nat.beq s 6 || Nat.beq s 7 else bif Nat.beq k 4 then Nat.beq s 0 || (Nat.ble 2 s && Nat.ble s 5) || Nat.beq s 8 else Nat.blt s 6
def wt1 (k t : Nat) (ts : List Bool) : Option (List Bool) :=
  if t < 9 then (if sOk k t = true ∧ ts.length < 64 then some (false :: ts) else none)
  else if t % 256 = 32 then (if t / 256 ≤ 9999 ∧ ts.length < 64 then some (false :: ts) else none)
  else if t = 47 then (if ts.length < 64 then some (true :: ts) else none)
  else match ts with
    | [] => none
    | b :: r => if t = 33 then (if b = true then some (true :: r) else none)
      else if t = 34 ∨ t = 35 then (if k = 4 ∧ b = false then some (false :: r) else none)
      else match r with
        | [] => none
        | a :: q => if (36 ≤ t ∧ t ≤ 39) ∨ t = 45 ∨ t = 46 then (if a = false ∧ b = false then some (false :: q) else none)
          else if 40 ≤ t ∧ t ≤ 42 then (if a = false ∧ b = false then some (true :: q) else none)
          else if t = 43 ∨ t = 44 then (if a = true ∧ b = true then some (true :: q) else none)
          else none
def wty (k : Nat) : List Nat → List Bool → Option (List Bool)
  | [], ts => some ts
  | t :: cs, ts => match wt1 k t ts with
    | none => none
    | some r => wty k cs r
def one (see : Nat → Int) (o : Nat) (a : Int) : Int :=
  if o = 33 then (if a = 0 then 1 else 0) else if a < 0 ∨ 8 ≤ a then 0 else if o = 34 then see (10 + a.toNat) else (((see 9).toNat / 2 ^ a.toNat % 2 : Nat) : Int)
def stp (see : Nat → Int) (t : Nat) (st : List Int) : List Int :=
  if t < 9 then see t :: st else if t % 256 = 32 then ((t / 256 : Nat) : Int) :: st else if t = 47 then 1 :: st
  else if t ≤ 35 then (match st with | a :: r => one see t a :: r | [] => [])
  else (match st with | b :: a :: r => two t a b :: r | s => s)
def evs (see : Nat → Int) : List Nat → List Int → List Int
  | [], st => st
  | t :: cs, st => evs see cs (stp see t st)
/-- what a formula tells -/
def evF (see : Nat → Int) (cs : List Nat) : Int := (evs see cs []).getLastD 0
def OkS : List Int → List Bool → Prop
  | [], [] => True
  | v :: st, b :: ts => (Bd v ∧ (b = true → v = 0 ∨ v = 1)) ∧ OkS st ts
  | _, _ => False
theorem OkS_len : ∀ {st : List Int} {ts : List Bool}, OkS st ts → st.length = ts.length
  | [], [], _ => rfl
  | [], _ :: _, h => h.elim
  | _ :: _, [], h => h.elim
  | _ :: st, _ :: ts, h => by rw [List.length_cons, List.length_cons, OkS_len h.2]
/-- the class's number for a token -/
def cc (t : Nat) : Nat := if t = 47 then 288 else t
theorem wt1_inv {k t : Nat} {ts ts' : List Bool} (h : wt1 k t ts = some ts') :
    (t < 9 ∧ sOk k t = true ∧ ts.length < 64 ∧ ts' = false :: ts) ∨ (¬ t < 9 ∧ t % 256 = 32 ∧ t / 256 ≤ 9999 ∧ ts.length < 64 ∧ ts' = false :: ts) ∨ (t = 47 ∧ ts.length < 64 ∧ ts' = true :: ts) ∨
    (∃ r, t = 33 ∧ ts = true :: r ∧ ts' = true :: r) ∨ (∃ r, (t = 34 ∨ t = 35) ∧ k = 4 ∧ ts = false :: r ∧ ts' = false :: r) ∨
    (∃ r, ((36 ≤ t ∧ t ≤ 39) ∨ t = 45 ∨ t = 46) ∧ ts = false :: false :: r ∧ ts' = false :: r) ∨ (∃ r, (40 ≤ t ∧ t ≤ 42) ∧ ts = false :: false :: r ∧ ts' = true :: r) ∨ (∃ r, (t = 43 ∨ t = 44) ∧ ts = true :: true :: r ∧ ts' = true :: r) := by
  unfold wt1 at h
  by_cases h1 : t < 9
  · rw [if_pos h1] at h
    by_cases h2 : sOk k t = true ∧ ts.length < 64
    · rw [if_pos h2] at h
      exact Or.inl ⟨h1, h2.1, h2.2, (Option.some.inj h).symm⟩
    · rw [if_neg h2] at h
      cases h
  refine Or.inr ?_
  rw [if_neg h1] at h
  by_cases h2 : t % 256 = 32
  · rw [if_pos h2] at h
    by_cases h3 : t / 256 ≤ 9999 ∧ ts.length < 64
    · rw [if_pos h3] at h
      exact Or.inl ⟨h1, h2, h3.1, h3.2, (Option.some.inj h).symm⟩
    · rw [if_neg h3] at h
      cases h
  refine Or.inr ?_
  rw [if_neg h2] at h
  by_cases h3 : t = 47
  · rw [if_pos h3] at h
    by_cases h4 : ts.length < 64
    · rw [if_pos h4] at h
      exact Or.inl ⟨h3, h4, (Option.some.inj h).symm⟩
    · rw [if_neg h4] at h
      cases h
  refine Or.inr ?_
  rw [if_neg h3] at h
  match ts, h with
  | [], h => cases h
  | b :: r, h =>
    simp only at h
    by_cases h4 : t = 33
    · rw [if_pos h4] at h
      cases b
      · simp at h
      · exact Or.inl ⟨r, h4, rfl, (Option.some.inj h).symm⟩
    refine Or.inr ?_
    rw [if_neg h4] at h
    by_cases h5 : t = 34 ∨ t = 35
    · rw [if_pos h5] at h
      by_cases h6 : k = 4 ∧ b = false
      · rw [if_pos h6] at h
        obtain ⟨h6, rfl⟩ := h6
        exact Or.inl ⟨r, h5, h6, rfl, (Option.some.inj h).symm⟩
      · rw [if_neg h6] at h
        cases h
    refine Or.inr ?_
    rw [if_neg h5] at h
    match r, h with
    | [], h => cases h
    | a :: q, h =>
      simp only at h
      by_cases h6 : (36 ≤ t ∧ t ≤ 39) ∨ t = 45 ∨ t = 46
      · rw [if_pos h6] at h
        by_cases h7 : a = false ∧ b = false
        · rw [if_pos h7] at h
          have hh := (Option.some.inj h).symm
          obtain ⟨rfl, rfl⟩ := h7
          exact Or.inl ⟨q, h6, rfl, hh⟩
        · rw [if_neg h7] at h
          cases h
      refine Or.inr ?_
      rw [if_neg h6] at h
      by_cases h8 : 40 ≤ t ∧ t ≤ 42
      · rw [if_pos h8] at h
        by_cases h7 : a = false ∧ b = false
        · rw [if_pos h7] at h
          have hh := (Option.some.inj h).symm
          obtain ⟨rfl, rfl⟩ := h7
          exact Or.inl ⟨q, h8, rfl, hh⟩
        · rw [if_neg h7] at h
          cases h
      refine Or.inr ?_
      rw [if_neg h8] at h
      by_cases h9 : t = 43 ∨ t = 44
      · rw [if_pos h9] at h
        by_cases h7 : a = true ∧ b = true
        · rw [if_pos h7] at h
          have hh := (Option.some.inj h).symm
          obtain ⟨rfl, rfl⟩ := h7
          exact ⟨q, h9, rfl, hh⟩
        · rw [if_neg h7] at h
          cases h
      · rw [if_neg h9] at h
        cases h
/-! the pile -/
def PileR (f : Nat → Int32) (st : List Int) : Prop := ∀ j, j < st.length → f j = iI (st.getD (st.length - 1 - j) 0)
theorem PileR.nil (f : Nat → Int32) : PileR f [] := fun j h => absurd h (Nat.not_lt_zero j)
theorem PileR.tail {f : Nat → Int32} {a : Int} {st : List Int} (h : PileR f (a :: st)) : PileR f st := fun j hj => by
  rw [h j (by rw [List.length_cons]; omega), List.length_cons, show st.length + 1 - 1 - j = (st.length - 1 - j) + 1 by omega]
  rfl
theorem PileR.top {f : Nat → Int32} {a : Int} {st : List Int} (h : PileR f (a :: st)) : f st.length = iI a := by
  rw [h st.length (by rw [List.length_cons]; omega), List.length_cons, show st.length + 1 - 1 - st.length = 0 by omega]
  rfl
theorem PileR.push {f : Nat → Int32} {st : List Int} (h : PileR f st) (v : Int) : PileR (upd f st.length (iI v)) (v :: st) := fun j hj => by
  rw [List.length_cons] at hj ⊢
  by_cases hjl : j = st.length
  · subst hjl
    rw [pk_us, show st.length + 1 - 1 - st.length = 0 by omega]
    rfl
  · rw [pk_un hjl, h j (by omega), show st.length + 1 - 1 - j = (st.length - 1 - j) + 1 by omega]
    rfl
theorem PileR.bot {f : Nat → Int32} {st : List Int} (h : PileR f st) (hs : 0 < st.length) : f 0 = iI (st.getLastD 0) := by
  rw [h 0 hs]
  congr 1
  rw [List.getLastD_eq_getLast?, List.getLast?_eq_getElem?, List.getD_eq_getElem?_getD]
  rfl
