/-! A text read: its blanks, words, numbers; no machine. -/
def ltB (c : Nat) : Bool := Nat.ble 97 c && Nat.ble c 122
def dgB (c : Nat) : Bool := Nat.ble 48 c && Nat.ble c 57
/-- a text: how long, its bytes -/
abbrev Tx : Type := Nat × (Nat → Nat)
def skF (t : Nat → Nat) : Nat → Nat → Nat
  | 0, a => a
  | m + 1, a => if t a = 10 ∨ t a = 32 then skF t m (a + 1) else a
/-- behind the blanks -/
def skp (T : Tx) (a : Nat) : Nat := skF T.2 (T.1 - a) a
def rnF (p : Nat → Bool) (t : Nat → Nat) : Nat → Nat → List Nat
  | 0, _ => []
  | m + 1, a => bif p (t a) then t a :: rnF p t m (a + 1) else []
/-- the letters, the digits that stand there -/
def wrd (T : Tx) (a : Nat) : List Nat := rnF ltB T.2 (T.1 - a) a
def dgs (T : Tx) (a : Nat) : List Nat := rnF dgB T.2 (T.1 - a) a
/-- where a reading stands: a fault and its place; or a place and what it touches (0 nothing, 1 a word, 2 a number) -/
abbrev Rdg : Type := Sum (Nat × Nat) (Nat × Nat)
def tcN (T : Tx) (a tc : Nat) : Nat := if skp T a = a then tc else 0
def cfl (T : Tx) (a tc : Nat) : Bool := (Nat.beq tc 1 && dgB (T.2 a)) || (Nat.beq tc 2 && ltB (T.2 a))
def lkS (T : Tx) : Rdg → Rdg
  | .inl e => .inl e
  | .inr p => if T.1 ≤ skp T p.1 then .inr (skp T p.1, tcN T p.1 p.2) else bif cfl T (skp T p.1) (tcN T p.1 p.2) then .inl (1, skp T p.1) else .inr (skp T p.1, tcN T p.1 p.2)
def lkC (T : Tx) : Rdg → Option Nat
  | .inl _ => none
  | .inr p => if T.1 ≤ skp T p.1 then none else bif cfl T (skp T p.1) (tcN T p.1 p.2) then none else some (T.2 (skp T p.1))
def lkV : Option Nat → Int32
  | none => -1
  | some c => nI c
def adv (k tc : Nat) : Rdg → Rdg
  | .inl e => .inl e
  | .inr p => .inr (p.1 + k, tc)
/-- a fault, so far on from where it stands -/
def flA (w k : Nat) : Rdg → Rdg
  | .inl e => .inl e
  | .inr p => .inl (w, p.1 + k)
def flP (w k : Nat) : Rdg → Rdg
  | .inl e => .inl e
  | .inr _ => .inl (w, k)
def wAt (T : Tx) (s : Rdg) : List Nat := match lkC T s with
  | none => []
  | some _ => match lkS T s with
    | .inl _ => []
    | .inr p => wrd T p.1
def dAt (T : Tx) (s : Rdg) : List Nat := match lkC T s with
  | none => []
  | some _ => match lkS T s with
    | .inl _ => []
    | .inr p => dgs T p.1
def tSg (T : Tx) (c : Nat) (s : Rdg) : Rdg := if lkC T s = some c then adv 1 0 (lkS T s) else lkS T s
def aSg (T : Tx) (c : Nat) (s : Rdg) : Rdg := if lkC T s = some c then adv 1 0 (lkS T s) else flA 1 0 (lkS T s)
def tWd (T : Tx) (w : List Nat) (s : Rdg) : Rdg := if wAt T s = w then adv w.length 1 (lkS T s) else lkS T s
def aWd (T : Tx) (w : List Nat) (s : Rdg) : Rdg := if wAt T s = w then adv w.length 1 (lkS T s) else flA 1 0 (lkS T s)
def nval (l : List Nat) : Nat := l.foldl (fun v c => 10 * v + (c - 48)) 0
def aNu (T : Tx) (most : Nat) (s : Rdg) : Rdg := if dAt T s = [] then flA 1 0 (lkS T s) else if 4 < (dAt T s).length then flA 1 4 (lkS T s) else if most < nval (dAt T s) then flA 2 0 (lkS T s) else adv (dAt T s).length 2 (lkS T s)
def isOk : Rdg → Bool
  | .inl _ => false
  | .inr _ => true
def vNu (T : Tx) (most : Nat) (s : Rdg) : Nat := bif isOk (aNu T most s) then nval (dAt T s) else 0
/-- the words that are nobody's name -/
def ownW : List (List Nat) := [[105, 100, 101, 97], [100, 101, 112, 116, 104], [110, 101, 101, 100], [102, 111, 114], [98, 97, 116, 104, 101, 114], [108, 117, 110, 103], [119, 105, 116, 115], [112, 108, 97, 110], [105, 110], [116, 105, 100, 101], [107, 101, 101, 112, 115], [102, 97, 100, 101, 115], [98, 101, 97, 114, 115], [115, 113, 117, 97, 108, 108], [104, 111, 117, 114], [107, 110, 111, 119, 110], [115, 116, 114, 101, 110, 103, 116, 104], [114, 111, 111, 116, 101, 100], [110, 117, 109, 98, 101, 114], [107, 110, 111, 119, 115], [114, 101, 97, 100, 121], [111, 114], [97, 110, 100], [110, 111, 116], [97, 108, 108], [109, 105, 110], [109, 97, 120]]
def aNm (T : Tx) (s : Rdg) : Rdg := if wAt T s = [] ∨ wAt T s ∈ ownW then flA 1 0 (lkS T s) else if 6 < (wAt T s).length then flA 1 6 (lkS T s) else adv (wAt T s).length 1 (lkS T s)
/-- a name's letters by numbers; none with a fault -/
def vNm (T : Tx) (s : Rdg) : List Nat := bif isOk (aNm T s) then (wAt T s).map (fun c => c - 96) else []
/-! what holds of these -/
theorem skp_e {T : Tx} {a : Nat} (h : T.1 ≤ a) : skp T a = a := by unfold skp; rw [show T.1 - a = 0 by omega]; rfl
theorem skp_b {T : Tx} {a : Nat} (h : a < T.1) (hb : T.2 a = 10 ∨ T.2 a = 32) : skp T a = skp T (a + 1) := by
  unfold skp
  rw [show T.1 - a = (T.1 - (a + 1)) + 1 by omega]
  show (if T.2 a = 10 ∨ T.2 a = 32 then skF T.2 (T.1 - (a + 1)) (a + 1) else a) = _
  rw [if_pos hb]
theorem skp_n {T : Tx} {a : Nat} (h : a < T.1) (hb : ¬ (T.2 a = 10 ∨ T.2 a = 32)) : skp T a = a := by
  unfold skp
  rw [show T.1 - a = (T.1 - (a + 1)) + 1 by omega]
  show (if T.2 a = 10 ∨ T.2 a = 32 then skF T.2 (T.1 - (a + 1)) (a + 1) else a) = _
  rw [if_neg hb]
theorem skp_ge {T : Tx} : ∀ (m a : Nat), T.1 - a = m → a ≤ skp T a ∧ (a ≤ T.1 → skp T a ≤ T.1) ∧ skp T (skp T a) = skp T a := by
  intro m
  induction m with
  | zero => intro a h; rw [skp_e (by omega), skp_e (by omega)]; exact ⟨Nat.le_refl _, fun q => q, rfl⟩
  | succ m ih =>
    intro a h
    by_cases hb : T.2 a = 10 ∨ T.2 a = 32
    · obtain ⟨h1, h2, h3⟩ := ih (a + 1) (by omega)
      rw [skp_b (by omega) hb]
      exact ⟨by omega, fun _ => h2 (by omega), h3⟩
    · rw [skp_n (by omega) hb, skp_n (by omega) hb]
      exact ⟨Nat.le_refl _, fun q => q, rfl⟩
theorem skp_id (T : Tx) (a : Nat) : skp T (skp T a) = skp T a := (skp_ge _ a rfl).2.2
theorem skp_le {T : Tx} {a : Nat} (h : a ≤ T.1) : skp T a ≤ T.1 := (skp_ge _ a rfl).2.1 h
theorem skp_up (T : Tx) (a : Nat) : a ≤ skp T a := (skp_ge _ a rfl).1
theorem skp_nb {T : Tx} {a : Nat} (h : skp T a < T.1) : ¬ (T.2 (skp T a) = 10 ∨ T.2 (skp T a) = 32) := by
  intro hb
  have h1 := skp_b h hb
  rw [skp_id] at h1
  have := skp_up T (skp T a + 1)
  omega
theorem tcN_id (T : Tx) (a tc : Nat) : tcN T (skp T a) (tcN T a tc) = tcN T a tc := by
  unfold tcN
  rw [skp_id, if_pos rfl]
theorem lkS_id (T : Tx) (s : Rdg) : lkS T (lkS T s) = lkS T s ∧ lkC T (lkS T s) = lkC T s := by
  cases s with
  | inl e => exact ⟨rfl, rfl⟩
  | inr p =>
    by_cases h : T.1 ≤ skp T p.1
    · have e : lkS T (.inr p) = .inr (skp T p.1, tcN T p.1 p.2) := by unfold lkS; exact if_pos h
      rw [e]
      have c : lkC T (.inr p) = none := by unfold lkC; exact if_pos h
      rw [c]
      unfold lkS lkC
      show (if T.1 ≤ skp T (skp T p.1) then _ else _) = _ ∧ (if T.1 ≤ skp T (skp T p.1) then _ else _) = _
      rw [skp_id, if_pos h, if_pos h, tcN_id]
      exact ⟨rfl, rfl⟩
    · cases hc : cfl T (skp T p.1) (tcN T p.1 p.2) with
      | true =>
        have e : lkS T (.inr p) = .inl (1, skp T p.1) := by unfold lkS; show (if _ then _ else _) = _; rw [if_neg h, hc]; rfl
        have c : lkC T (.inr p) = none := by unfold lkC; show (if _ then _ else _) = _; rw [if_neg h, hc]; rfl
        rw [e, c]
        exact ⟨rfl, rfl⟩
      | false =>
        have e : lkS T (.inr p) = .inr (skp T p.1, tcN T p.1 p.2) := by unfold lkS; show (if _ then _ else _) = _; rw [if_neg h, hc]; rfl
        have c : lkC T (.inr p) = some (T.2 (skp T p.1)) := by unfold lkC; show (if _ then _ else _) = _; rw [if_neg h, hc]; rfl
        rw [e, c]
        unfold lkS lkC
        show (if T.1 ≤ skp T (skp T p.1) then _ else bif cfl T (skp T (skp T p.1)) (tcN T (skp T p.1) (tcN T p.1 p.2)) then _ else _) = _ ∧ (if T.1 ≤ skp T (skp T p.1) then _ else bif cfl T (skp T (skp T p.1)) (tcN T (skp T p.1) (tcN T p.1 p.2)) then _ else _) = _
        rw [skp_id, tcN_id, if_neg h, if_neg h, hc]
        exact ⟨rfl, rfl⟩
/-- what a look shows: it stands there -/
theorem lk_some {T : Tx} {s : Rdg} {c : Nat} (h : lkC T s = some c) : ∃ a tc, lkS T s = .inr (a, tc) ∧ a < T.1 ∧ T.2 a = c ∧ skp T a = a ∧ cfl T a tc = false ∧ ¬ (c = 10 ∨ c = 32) := by
  cases s with
  | inl e => cases h
  | inr p =>
    unfold lkC at h
    have h : (if T.1 ≤ skp T p.1 then none else bif cfl T (skp T p.1) (tcN T p.1 p.2) then none else some (T.2 (skp T p.1))) = some c := h
    by_cases hl : T.1 ≤ skp T p.1
    · rw [if_pos hl] at h; cases h
    · rw [if_neg hl] at h
      cases hc : cfl T (skp T p.1) (tcN T p.1 p.2) with
      | true => rw [hc] at h; cases h
      | false =>
        rw [hc] at h
        have h : some (T.2 (skp T p.1)) = some c := h
        cases h
        exact ⟨_, _, by unfold lkS; show (if _ then _ else _) = _; rw [if_neg hl, hc]; rfl, by omega, rfl, skp_id _ _, hc, skp_nb (by omega)⟩
theorem rnF_s {p : Nat → Bool} {t : Nat → Nat} {m a : Nat} (h : p (t a) = true) : rnF p t (m + 1) a = t a :: rnF p t m (a + 1) := by
  show (bif p (t a) then _ else _) = _
  rw [h]; rfl
theorem rnF_n {p : Nat → Bool} {t : Nat → Nat} {m a : Nat} (h : p (t a) = false) : rnF p t m a = [] := by
  cases m with
  | zero => rfl
  | succ m =>
    show (bif p (t a) then _ else _) = _
    rw [h]; rfl
theorem wrd_e {T : Tx} {a : Nat} (h : T.1 ≤ a ∨ ltB (T.2 a) = false) : wrd T a = [] := by
  unfold wrd
  rcases h with h | h
  · rw [show T.1 - a = 0 by omega]; rfl
  · exact rnF_n h
theorem wrd_s {T : Tx} {a : Nat} (h : a < T.1) (h2 : ltB (T.2 a) = true) : wrd T a = T.2 a :: wrd T (a + 1) := by
  unfold wrd
  rw [show T.1 - a = (T.1 - (a + 1)) + 1 by omega]
  exact rnF_s h2
theorem dgs_e {T : Tx} {a : Nat} (h : T.1 ≤ a ∨ dgB (T.2 a) = false) : dgs T a = [] := by
  unfold dgs
  rcases h with h | h
  · rw [show T.1 - a = 0 by omega]; rfl
  · exact rnF_n h
theorem dgs_s {T : Tx} {a : Nat} (h : a < T.1) (h2 : dgB (T.2 a) = true) : dgs T a = T.2 a :: dgs T (a + 1) := by
  unfold dgs
  rw [show T.1 - a = (T.1 - (a + 1)) + 1 by omega]
  exact rnF_s h2
theorem wrd_ne {T : Tx} {a : Nat} : wrd T a ≠ [] ↔ a < T.1 ∧ ltB (T.2 a) = true := by
  constructor
  · intro h
    by_cases h1 : a < T.1
    · cases hq : ltB (T.2 a) with
      | true => exact ⟨h1, rfl⟩
      | false => exact absurd (wrd_e (Or.inr hq)) h
    · exact absurd (wrd_e (Or.inl (by omega))) h
  · intro h; rw [wrd_s h.1 h.2]; exact List.cons_ne_nil _ _
/-- a word ends where no letter follows -/
theorem wrd_end {T : Tx} : ∀ (m a : Nat), T.1 - a = m → (a ≤ T.1 → a + (wrd T a).length ≤ T.1) ∧ (T.1 ≤ a + (wrd T a).length ∨ ltB (T.2 (a + (wrd T a).length)) = false) ∧ (∀ j, j < (wrd T a).length → (wrd T a).getD j 0 = T.2 (a + j) ∧ ltB (T.2 (a + j)) = true) := by
  intro m
  induction m with
  | zero => intro a h; rw [wrd_e (Or.inl (by omega))]; exact ⟨fun q => q, Or.inl (by show T.1 ≤ a + 0; omega), fun j hj => absurd hj (Nat.not_lt_zero j)⟩
  | succ m ih =>
    intro a h
    cases hq : ltB (T.2 a) with
    | false => rw [wrd_e (Or.inr hq)]; exact ⟨fun q => q, Or.inr hq, fun j hj => absurd hj (Nat.not_lt_zero j)⟩
    | true =>
      obtain ⟨h1, h2, h3⟩ := ih (a + 1) (by omega)
      rw [wrd_s (by omega) hq]
      have e : a + (T.2 a :: wrd T (a + 1)).length = a + 1 + (wrd T (a + 1)).length := by rw [List.length_cons]; omega
      rw [e]
      refine ⟨fun _ => h1 (by omega), h2, fun j hj => ?_⟩
      cases j with
      | zero => exact ⟨rfl, hq⟩
      | succ j =>
        have := h3 j (by rw [List.length_cons] at hj; omega)
        rw [show a + (j + 1) = a + 1 + j by omega]
        exact this
theorem dgs_end {T : Tx} : ∀ (m a : Nat), T.1 - a = m → (a ≤ T.1 → a + (dgs T a).length ≤ T.1) ∧ (T.1 ≤ a + (dgs T a).length ∨ dgB (T.2 (a + (dgs T a).length)) = false) ∧ (∀ j, j < (dgs T a).length → (dgs T a).getD j 0 = T.2 (a + j) ∧ dgB (T.2 (a + j)) = true) := by
  intro m
  induction m with
  | zero => intro a h; rw [dgs_e (Or.inl (by omega))]; exact ⟨fun q => q, Or.inl (by show T.1 ≤ a + 0; omega), fun j hj => absurd hj (Nat.not_lt_zero j)⟩
  | succ m ih =>
    intro a h
    cases hq : dgB (T.2 a) with
    | false => rw [dgs_e (Or.inr hq)]; exact ⟨fun q => q, Or.inr hq, fun j hj => absurd hj (Nat.not_lt_zero j)⟩
    | true =>
      obtain ⟨h1, h2, h3⟩ := ih (a + 1) (by omega)
      rw [dgs_s (by omega) hq]
      have e : a + (T.2 a :: dgs T (a + 1)).length = a + 1 + (dgs T (a + 1)).length := by rw [List.length_cons]; omega
      rw [e]
      refine ⟨fun _ => h1 (by omega), h2, fun j hj => ?_⟩
      cases j with
      | zero => exact ⟨rfl, hq⟩
      | succ j =>
        have := h3 j (by rw [List.length_cons] at hj; omega)
        rw [show a + (j + 1) = a + 1 + j by omega]
        exact this
/-- a list of letters stands there whole: it is the word -/
theorem wrd_is {T : Tx} : ∀ (w : List Nat) (a : Nat), (∀ c, c ∈ w → ltB c = true) → ((a + w.length ≤ T.1 ∧ (∀ j, j < w.length → T.2 (a + j) = w.getD j 0) ∧ (T.1 ≤ a + w.length ∨ ltB (T.2 (a + w.length)) = false)) ↔ (a ≤ T.1 ∧ wrd T a = w)) := by
  intro w
  induction w with
  | nil =>
    intro a _
    constructor
    · intro h; exact ⟨by have := h.1; simpa using this, wrd_e (by have := h.2.2; simpa using this)⟩
    · intro h
      refine ⟨h.1, fun j hj => absurd hj (Nat.not_lt_zero j), ?_⟩
      have := (wrd_end (T := T) _ a rfl).2.1
      rw [h.2] at this
      exact this
  | cons c w ih =>
    intro a hw
    have hc := hw c List.mem_cons_self
    have ih := ih (a + 1) (fun x hx => hw x (List.mem_cons_of_mem c hx))
    constructor
    · intro h
      have h0 : T.2 a = c := h.2.1 0 (by rw [List.length_cons]; omega)
      have hl := h.1
      rw [List.length_cons] at hl
      refine ⟨by omega, ?_⟩
      rw [wrd_s (by omega) (by rw [h0]; exact hc), h0]
      congr 1
      refine (ih.mp ⟨by omega, fun j hj => ?_, ?_⟩).2
      · have := h.2.1 (j + 1) (by rw [List.length_cons]; omega)
        rw [show a + (j + 1) = a + 1 + j by omega] at this
        exact this
      · have := h.2.2
        rw [List.length_cons] at this
        rw [show a + (w.length + 1) = a + 1 + w.length by omega] at this
        exact this
    · intro h
      have h1 := wrd_ne.mp (by rw [h.2]; exact List.cons_ne_nil _ _)
      have h2 := h.2
      rw [wrd_s h1.1 h1.2] at h2
      have h3 := List.cons.inj h2
      have h4 := ih.mpr ⟨h1.1, h3.2⟩
      rw [List.length_cons]
      refine ⟨by omega, fun j hj => ?_, ?_⟩
      · cases j with
        | zero => exact h3.1
        | succ j =>
          have := h4.2.1 j (by omega)
          rw [show a + (j + 1) = a + 1 + j by omega]
          exact this
      · have := h4.2.2
        rw [show a + (w.length + 1) = a + 1 + w.length by omega]
        exact this
