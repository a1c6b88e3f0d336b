/-! A formula read, from above down: what the class's reading comes to; no machine. -/
/-- where the reading stands, the orders that it has told -/
abbrev Xs : Type := Rdg × List Nat
def em (t : Nat) (x : Xs) : Xs := (x.1, x.2 ++ [t])
def onX (f : Rdg → Rdg) (x : Xs) : Xs := (f x.1, x.2)
/-- one more is open, where there is room for n -/
def moS (n : Nat) (s : Rdg) : Rdg := if n = 0 then flA 4 0 s else s
/-- the level behind: a fact, a test, a sum, a part -/
abbrev Lv : Type := (Xs → Xs) × (Xs → Xs) × (Xs → Xs) × (Xs → Xs)
def wNot : List Nat := [110, 111, 116]
def wAll : List Nat := [97, 108, 108]
def wAnd : List Nat := [97, 110, 100]
def wOr : List Nat := [111, 114]
def wMin : List Nat := [109, 105, 110]
def wMax : List Nat := [109, 97, 120]
def wKnows : List Nat := [107, 110, 111, 119, 115]
def wReady : List Nat := [114, 101, 97, 100, 121]
def wSg : Nat → List Nat
  | 0 => [104, 111, 117, 114]
  | 1 => [100, 101, 112, 116, 104]
  | 2 => [119, 105, 116, 115]
  | 3 => [107, 110, 111, 119, 110]
  | 4 => [108, 117, 110, 103]
  | 5 => [116, 105, 100, 101]
  | 6 => [115, 116, 114, 101, 110, 103, 116, 104]
  | 7 => [114, 111, 111, 116, 101, 100]
  | _ => [110, 117, 109, 98, 101, 114]
/-- which sight a word stands for, in formulas of such a kind -/
def sgF (k : Nat) (w : List Nat) : Option Nat :=
  if w = wSg 0 then some 0 else if k ≠ 0 ∧ w = wSg 2 then some 2 else if k ≠ 0 ∧ w = wSg 3 then some 3 else if (k ≠ 0 ∧ k ≠ 4) ∧ w = wSg 1 then some 1 else
  if (k ≠ 0 ∧ k ≠ 2) ∧ w = wSg 4 then some 4 else if (k ≠ 0 ∧ k ≠ 2) ∧ w = wSg 5 then some 5 else if k = 2 ∧ w = wSg 6 then some 6 else if k = 2 ∧ w = wSg 7 then some 7 else if k = 4 ∧ w = wSg 8 then some 8 else none
def sgS (U : Tx) (s : Rdg) : Rdg := if lkC U s = some 60 then adv 1 0 (lkS U s) else if lkC U s = some 62 then adv 1 0 (lkS U s) else aSg U 61 s
def sgT (U : Tx) (s : Rdg) : Nat := if lkC U s = some 60 then 40 else if lkC U s = some 62 then 41 else 42
/-- of two, behind min, max -/
def paX (U : Tx) (n : Nat) (D : Lv) (t : Nat) (x : Xs) : Xs := if lkC U x.1 = some 40 then (bif isOk (moS n (lkS U x.1)) then em t (onX (aSg U 41) (D.2.2.1 (onX (aSg U 44) (D.2.2.1 (tSg U 40 (moS n (lkS U x.1)), x.2))))) else (moS n (lkS U x.1), x.2)) else (flA 1 0 (lkS U x.1), x.2)
/-- of a part behind it -/
def ofX (U : Tx) (n : Nat) (D : Lv) (w : List Nat) (t : Nat) (x : Xs) : Xs := bif isOk (moS n x.1) then em t (D.2.2.2 (tWd U w (moS n x.1), x.2)) else (moS n x.1, x.2)
def parX (U : Tx) (k n : Nat) (D : Lv) (x : Xs) : Xs :=
  bif dgI (lkV (lkC U x.1)) then em (256 * vNu U 9999 (lkS U x.1) + 32) (aNu U 9999 (lkS U x.1), x.2)
  else if lkC U x.1 = some 40 then (bif isOk (moS n (lkS U x.1)) then onX (aSg U 41) (D.2.2.1 (tSg U 40 (moS n (lkS U x.1)), x.2)) else (moS n (lkS U x.1), x.2))
  else if wAt U x.1 = wMin then paX U n D 45 (tWd U wMin (lkS U x.1), x.2)
  else if wAt U x.1 = wMax then paX U n D 46 (tWd U wMax (lkS U x.1), x.2)
  else if k = 4 ∧ wAt U x.1 = wKnows then ofX U n D wKnows 34 (lkS U x.1, x.2)
  else if k = 4 ∧ wAt U x.1 = wReady then ofX U n D wReady 35 (lkS U x.1, x.2)
  else match sgF k (wAt U x.1) with
    | some i => (adv (wAt U x.1).length 1 (lkS U x.1), x.2 ++ [i])
    | none => (flA 1 0 (lkS U x.1), x.2)
/-- one of a kind, and more of it behind two signs -/
def twL (U : Tx) (f : Xs → Xs) (c1 c2 t1 t2 : Nat) : Nat → Xs → Xs
  | 0, x => x
  | m + 1, x => if lkC U x.1 = some c1 then twL U f c1 c2 t1 t2 m (em t1 (f (tSg U c1 x.1, x.2))) else if lkC U x.1 = some c2 then twL U f c1 c2 t1 t2 m (em t2 (f (tSg U c2 x.1, x.2))) else (lkS U x.1, x.2)
def prX (U : Tx) (k n : Nat) (D : Lv) (x : Xs) : Xs := twL U (parX U k n D) 42 47 38 39 1600 (parX U k n D x)
def smX (U : Tx) (k n : Nat) (D : Lv) (x : Xs) : Xs := twL U (prX U k n D) 43 45 36 37 1600 (prX U k n D x)
def fcX (U : Tx) (k n : Nat) (D : Lv) (x : Xs) : Xs :=
  if wAt U x.1 = wNot then (bif isOk (moS n (lkS U x.1)) then em 33 (D.1 (tWd U wNot (moS n (lkS U x.1)), x.2)) else (moS n (lkS U x.1), x.2))
  else if lkC U x.1 = some 91 then (bif isOk (moS n (lkS U x.1)) then onX (aSg U 93) (D.2.1 (tSg U 91 (moS n (lkS U x.1)), x.2)) else (moS n (lkS U x.1), x.2))
  else if wAt U x.1 = wAll then em 47 (tWd U wAll (lkS U x.1), x.2)
  else em (sgT U (smX U k n D (lkS U x.1, x.2)).1) (smX U k n D (onX (sgS U) (smX U k n D (lkS U x.1, x.2))))
/-- one of a kind, and more of it behind a word -/
def woL (U : Tx) (f : Xs → Xs) (w : List Nat) (t : Nat) : Nat → Xs → Xs
  | 0, x => x
  | m + 1, x => if wAt U x.1 = w then woL U f w t m (em t (f (tWd U w x.1, x.2))) else (lkS U x.1, x.2)
def boX (U : Tx) (k n : Nat) (D : Lv) (x : Xs) : Xs := woL U (fcX U k n D) wAnd 43 1600 (fcX U k n D x)
def teX (U : Tx) (k n : Nat) (D : Lv) (x : Xs) : Xs := woL U (boX U k n D) wOr 44 1600 (boX U k n D x)
def lvX (U : Tx) (k n : Nat) (D : Lv) : Lv := (fcX U k n D, teX U k n D, smX U k n D, parX U k n D)
/-- a level with room for n more that are open -/
def lvl (U : Tx) (k : Nat) : Nat → Lv
  | 0 => lvX U k 0 (id, id, id, id)
  | n + 1 => lvX U k (n + 1) (lvl U k n)
theorem wl_not : wL.getD 23 [] = wNot := rfl
theorem wl_all : wL.getD 24 [] = wAll := rfl
theorem wl_min : wL.getD 25 [] = wMin := rfl
theorem wl_max : wL.getD 26 [] = wMax := rfl
theorem wl_knows : wL.getD 19 [] = wKnows := rfl
theorem wl_ready : wL.getD 20 [] = wReady := rfl
theorem wl_and : wL.getD 22 [] = wAnd := rfl
theorem wl_or : wL.getD 21 [] = wOr := rfl
theorem tSg_y {U : Tx} {c : Nat} {s : Rdg} (h : lkC U s = some c) : tSg U c s = adv 1 0 (lkS U s) := if_pos h
theorem tSg_n {U : Tx} {c : Nat} {s : Rdg} (h : ¬ lkC U s = some c) : tSg U c s = lkS U s := if_neg h
theorem tWd_y {U : Tx} {w : List Nat} {s : Rdg} (h : wAt U s = w) : tWd U w s = adv w.length 1 (lkS U s) := if_pos h
theorem tWd_n {U : Tx} {w : List Nat} {s : Rdg} (h : ¬ wAt U s = w) : tWd U w s = lkS U s := if_neg h
theorem lkS_i (U : Tx) (s : Rdg) : lkS U (lkS U s) = lkS U s := (lkS_id U s).1
theorem lkC_i (U : Tx) (s : Rdg) : lkC U (lkS U s) = lkC U s := (lkS_id U s).2
theorem wAt_i (U : Tx) (s : Rdg) : wAt U (lkS U s) = wAt U s := by unfold wAt; rw [lkS_i, lkC_i]
theorem dAt_i (U : Tx) (s : Rdg) : dAt U (lkS U s) = dAt U s := by unfold dAt; rw [lkS_i, lkC_i]
theorem aSg_i (U : Tx) (c : Nat) (s : Rdg) : aSg U c (lkS U s) = aSg U c s := by unfold aSg; rw [lkS_i, lkC_i]
theorem tSg_i (U : Tx) (c : Nat) (s : Rdg) : tSg U c (lkS U s) = tSg U c s := by unfold tSg; rw [lkS_i, lkC_i]
theorem tWd_i (U : Tx) (w : List Nat) (s : Rdg) : tWd U w (lkS U s) = tWd U w s := by unfold tWd; rw [lkS_i, wAt_i]
theorem aNu_i (U : Tx) (m : Nat) (s : Rdg) : aNu U m (lkS U s) = aNu U m s := by unfold aNu; rw [lkS_i, dAt_i]
theorem vNu_i (U : Tx) (m : Nat) (s : Rdg) : vNu U m (lkS U s) = vNu U m s := by unfold vNu; rw [aNu_i, dAt_i]
theorem vNu_le (U : Tx) (m : Nat) (s : Rdg) : vNu U m s ≤ m := by
  unfold vNu
  cases hq : isOk (aNu U m s) with
  | false => exact Nat.zero_le _
  | true =>
    show nval (dAt U s) ≤ m
    unfold aNu at hq
    by_cases h1 : dAt U s = []
    · rw [h1]; exact Nat.zero_le _
    · rw [if_neg h1] at hq
      by_cases h2 : 4 < (dAt U s).length
      · rw [if_pos h2] at hq
        cases hl : lkS U s with
        | inl e => rw [hl] at hq; cases hq
        | inr p => rw [hl] at hq; cases hq
      · rw [if_neg h2] at hq
        by_cases h3 : m < nval (dAt U s)
        · rw [if_pos h3] at hq
          cases hl : lkS U s with
          | inl e => rw [hl] at hq; cases hq
          | inr p => rw [hl] at hq; cases hq
        · omega
