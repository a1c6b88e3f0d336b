/-! Statements of a beach read: what both readings come to; no machine. -/
def upF {α : Type} (f : Nat → α) (k : Nat) (v : α) (j : Nat) : α := bif Nat.beq j k then v else f j
theorem upF_s {α : Type} (f : Nat → α) (k : Nat) (v : α) : upF f k v k = v := by unfold upF; rw [Nat.beq_refl]; rfl
theorem upF_n {α : Type} {f : Nat → α} {k j : Nat} {v : α} (h : j ≠ k) : upF f k v j = f j := by unfold upF; rw [nbeq h]; rfl
/-- the words of the readers, by the places of their texts -/
def kw : Nat → List Nat
  | 0 => [105, 100, 101, 97]
  | 2 => [100, 101, 112, 116, 104]
  | 3 => [110, 101, 101, 100]
  | 4 => [102, 111, 114]
  | 5 => [98, 97, 116, 104, 101, 114]
  | 6 => [108, 117, 110, 103]
  | 7 => [119, 105, 116, 115]
  | 8 => [112, 108, 97, 110]
  | 9 => [105, 110]
  | 10 => [116, 105, 100, 101]
  | 28 => [107, 101, 101, 112, 115]
  | 29 => [102, 97, 100, 101, 115]
  | 30 => [98, 101, 97, 114, 115]
  | 31 => [115, 113, 117, 97, 108, 108]
  | 32 => [102, 105, 114, 115, 116]
  | 33 => [108, 97, 115, 116]
  | 34 => [111, 102, 116, 101, 110]
  | 35 => [116, 111, 116, 97, 108]
  | 36 => [109, 111, 115, 116]
  | _ => [108, 101, 97, 115, 116]
theorem kw_0 : wL.getD 0 [] = kw 0 := rfl
theorem kw_2 : wL.getD 1 [] = kw 2 := rfl
theorem kw_3 : wL.getD 2 [] = kw 3 := rfl
theorem kw_4 : wL.getD 3 [] = kw 4 := rfl
theorem kw_5 : wL.getD 4 [] = kw 5 := rfl
theorem kw_6 : wL.getD 5 [] = kw 6 := rfl
theorem kw_7 : wL.getD 6 [] = kw 7 := rfl
theorem kw_8 : wL.getD 7 [] = kw 8 := rfl
theorem kw_9 : wL.getD 8 [] = kw 9 := rfl
theorem kw_10 : wL.getD 9 [] = kw 10 := rfl
theorem kw_28 : wL.getD 10 [] = kw 28 := rfl
theorem kw_29 : wL.getD 11 [] = kw 29 := rfl
theorem kw_30 : wL.getD 12 [] = kw 30 := rfl
theorem kw_31 : wL.getD 13 [] = kw 31 := rfl
theorem kw_32 : wL.getD 27 [] = kw 32 := rfl
theorem kw_33 : wL.getD 28 [] = kw 33 := rfl
theorem kw_34 : wL.getD 29 [] = kw 34 := rfl
theorem kw_35 : wL.getD 30 [] = kw 35 := rfl
theorem kw_36 : wL.getD 31 [] = kw 36 := rfl
theorem kw_37 : wL.getD 32 [] = kw 37 := rfl
theorem kw_ne : ∀ q, q ∈ [0, 2, 3, 4, 5, 6, 7, 8, 9, 10, 28, 29, 30, 31, 32, 33, 34, 35, 36, 37] → kw q ≠ [] := by decide
/-- the first of so many names that is such; their number, if none is -/
def fndF (f : Nat → List Nat) (w : List Nat) : Nat → Nat → Nat
  | 0, k => k
  | m + 1, k => if f k = w then k else fndF f w m (k + 1)
def fnd (n : Nat) (f : Nat → List Nat) (w : List Nat) : Nat := fndF f w n 0
theorem fndF_le (f : Nat → List Nat) (w : List Nat) : ∀ m k, k ≤ fndF f w m k ∧ fndF f w m k ≤ k + m ∧ (fndF f w m k < k + m → f (fndF f w m k) = w) := by
  intro m
  induction m with
  | zero => intro k; exact ⟨Nat.le_refl _, Nat.le_refl _, fun h => absurd h (Nat.lt_irrefl _)⟩
  | succ m ih =>
    intro k
    show k ≤ (if f k = w then k else fndF f w m (k + 1)) ∧ (if f k = w then k else fndF f w m (k + 1)) ≤ k + (m + 1) ∧ ((if f k = w then k else fndF f w m (k + 1)) < k + (m + 1) → f (if f k = w then k else fndF f w m (k + 1)) = w)
    by_cases h : f k = w
    · rw [if_pos h]; exact ⟨Nat.le_refl _, by omega, fun _ => h⟩
    · rw [if_neg h]
      obtain ⟨h1, h2, h3⟩ := ih (k + 1)
      exact ⟨by omega, by omega, fun z => h3 (by omega)⟩
theorem fnd_le (n : Nat) (f : Nat → List Nat) (w : List Nat) : fnd n f w ≤ n := by have := (fndF_le f w n 0).2.1; unfold fnd; omega
def adI (B : Bh) (nm : List Nat) (dp : Nat) : Bh := (upF B.1 0 (ni B + 1), upF (upF B.2.1 0 (upF (B.2.1 0) (ni B) dp)) 1 (upF (B.2.1 1) (ni B) 0), upF B.2.2.1 (ni B) nm, B.2.2.2.1, B.2.2.2.2)
def adN (B : Bh) (a b : Nat) : Bh := (upF B.1 2 (nn B + 1), upF B.2.1 1 (upF (B.2.1 1) b (nee B b ||| 2 ^ a)), B.2.2.1, B.2.2.2.1, B.2.2.2.2)
def adB (B : Bh) (nm : List Nat) (lu wi : Nat) : Bh := (upF B.1 1 (nb B + 1), upF (upF B.2.1 2 (upF (B.2.1 2) (nb B) lu)) 3 (upF (B.2.1 3) (nb B) wi), B.2.2.1, upF B.2.2.2.1 (nb B) nm, B.2.2.2.2)
def adP (B : Bh) (b i : Nat) : Bh := (upF B.1 3 (np B + 1), upF (upF B.2.1 4 (upF (B.2.1 4) (np B) b)) 5 (upF (B.2.1 5) (np B) i), B.2.2.1, B.2.2.2.1, B.2.2.2.2)
def adF (B : Bh) (k : Nat) (cs : List Nat) : Bh := (B.1, B.2.1, B.2.2.1, B.2.2.2.1, upF B.2.2.2.2 k (some cs))
def adQ (B : Bh) (v : Nat) : Bh := (upF B.1 4 v, B.2)
/-- how many orders the formulas told have -/
def fl1 (B : Bh) (k : Nat) : Nat := match frm B k with
  | none => 0
  | some cs => cs.length
def flen (B : Bh) : Nat := fl1 B 0 + fl1 B 1 + fl1 B 2 + fl1 B 3
def roomS (there most a : Nat) (s : Rdg) : Rdg := if most ≤ there then flP 5 a s else s
def nwN (U : Tx) (B : Bh) (s : Rdg) : Rdg := if isOk (aNm U s) = true ∧ (fnd (ni B) (nmI B) (vNm U s) < ni B ∨ fnd (nb B) (nmB B) (vNm U s) < nb B) then flP 3 (rpos (lkS U s)) (aNm U s) else aNm U s
def tdN (U : Tx) (n : Nat) (f : Nat → List Nat) (s : Rdg) : Rdg := if isOk (aNm U s) = true ∧ fnd n f (vNm U s) = n then flP 3 (rpos (lkS U s)) (aNm U s) else aNm U s
def idS (a : Nat) (x : Rdg × Bh) : Rdg := roomS (ni x.2) 8 a x.1
def idA (U : Tx) (a : Nat) (x : Rdg × Bh) : Rdg := nwN U x.2 (idS a x)
def idB (U : Tx) (a : Nat) (x : Rdg × Bh) : Rdg := aWd U (kw 2) (idA U a x)
def idR (U : Tx) (a : Nat) (x : Rdg × Bh) : Rdg × Bh := (aNu U 9 (idB U a x), adI x.2 (vNm U (idS a x)) (vNu U 9 (idB U a x)))
def ndS (a : Nat) (x : Rdg × Bh) : Rdg := roomS (nn x.2) 16 a x.1
def ndA (U : Tx) (a : Nat) (x : Rdg × Bh) : Rdg := tdN U (ni x.2) (nmI x.2) (ndS a x)
def ndB (U : Tx) (a : Nat) (x : Rdg × Bh) : Rdg := aWd U (kw 4) (ndA U a x)
def ndC (U : Tx) (a : Nat) (x : Rdg × Bh) : Rdg := tdN U (ni x.2) (nmI x.2) (ndB U a x)
def ndX (U : Tx) (a : Nat) (x : Rdg × Bh) : Nat := fnd (ni x.2) (nmI x.2) (vNm U (ndS a x))
def ndY (U : Tx) (a : Nat) (x : Rdg × Bh) : Nat := fnd (ni x.2) (nmI x.2) (vNm U (ndB U a x))
def ndR (U : Tx) (a : Nat) (x : Rdg × Bh) : Rdg × Bh := if isOk (ndC U a x) = true ∧ (ndY U a x ≤ ndX U a x ∨ nee x.2 (ndY U a x) / 2 ^ ndX U a x % 2 = 1) then (flP 3 (rpos (lkS U (ndB U a x))) (ndC U a x), x.2) else (ndC U a x, adN x.2 (ndX U a x) (ndY U a x))
def btS (a : Nat) (x : Rdg × Bh) : Rdg := roomS (nb x.2) 6 a x.1
def btA (U : Tx) (a : Nat) (x : Rdg × Bh) : Rdg := nwN U x.2 (btS a x)
def btB (U : Tx) (a : Nat) (x : Rdg × Bh) : Rdg := aWd U (kw 6) (btA U a x)
def btC (U : Tx) (a : Nat) (x : Rdg × Bh) : Rdg := aNu U 9 (btB U a x)
def btD (U : Tx) (a : Nat) (x : Rdg × Bh) : Rdg := aWd U (kw 7) (btC U a x)
def btR (U : Tx) (a : Nat) (x : Rdg × Bh) : Rdg × Bh := (aNu U 9 (btD U a x), adB x.2 (vNm U (btS a x)) (vNu U 9 (btB U a x)) (vNu U 9 (btD U a x)))
def plS (a : Nat) (x : Rdg × Bh) : Rdg := roomS (np x.2) 16 a x.1
def plA (U : Tx) (a : Nat) (x : Rdg × Bh) : Rdg := tdN U (nb x.2) (nmB x.2) (plS a x)
def plB (U : Tx) (a : Nat) (x : Rdg × Bh) : Rdg := aWd U (kw 9) (plA U a x)
def plR (U : Tx) (a : Nat) (x : Rdg × Bh) : Rdg × Bh := (tdN U (ni x.2) (nmI x.2) (plB U a x), adP x.2 (fnd (nb x.2) (nmB x.2) (vNm U (plS a x))) (fnd (ni x.2) (nmI x.2) (vNm U (plB U a x))))
def foA (k a : Nat) (x : Rdg × Bh) : Rdg := if frm x.2 k = none then x.1 else flP 5 a x.1
def foX (U : Tx) (k : Nat) (s : Rdg) : Xs := if k = 3 then (lvl U k 6).2.1 (s, []) else (lvl U k 6).2.2.1 (s, [])
def foR (U : Tx) (k a : Nat) (x : Rdg × Bh) : Rdg × Bh := ((foX U k (foA k a x)).1, adF x.2 k (foX U k (foA k a x)).2)
def sqR (U : Tx) (x : Rdg × Bh) : Rdg × Bh := (aNu U 100 (aWd U (kw 31) x.1), adQ x.2 (vNu U 100 (aWd U (kw 31) x.1)))
/-- a statement, from where a look has been -/
def stm (U : Tx) (x : Rdg × Bh) : Rdg × Bh :=
  if wAt U x.1 = kw 0 then idR U (rpos x.1) (tWd U (kw 0) x.1, x.2)
  else if wAt U x.1 = kw 3 then ndR U (rpos x.1) (tWd U (kw 3) x.1, x.2)
  else if wAt U x.1 = kw 5 then btR U (rpos x.1) (tWd U (kw 5) x.1, x.2)
  else if wAt U x.1 = kw 8 then plR U (rpos x.1) (tWd U (kw 8) x.1, x.2)
  else if wAt U x.1 = kw 10 then foR U 0 (rpos x.1) (tWd U (kw 10) x.1, x.2)
  else if wAt U x.1 = kw 28 then foR U 1 (rpos x.1) (tWd U (kw 28) x.1, x.2)
  else if wAt U x.1 = kw 29 then foR U 2 (rpos x.1) (tWd U (kw 29) x.1, x.2)
  else if wAt U x.1 = kw 30 then foR U 3 (rpos x.1) (tWd U (kw 30) x.1, x.2)
  else sqR U x
def stS (U : Tx) (x : Rdg × Bh) : Rdg × Bh := (aSg U 59 (stm U x).1, (stm U x).2)
/-- a whole beach: so many turns at most, so many statements told -/
def bcR (U : Tx) : Nat → Nat → Rdg × Bh → (Rdg × Bh) × Nat
  | 0, c, x => (x, c)
  | m + 1, c, x => if lkC U x.1 = none then ((lkS U x.1, x.2), c) else if c = 60 then ((flP 5 (rpos (lkS U x.1)) (lkS U x.1), x.2), c) else bcR U m (c + 1) (stS U (lkS U x.1, x.2))
def B00 : Bh := (fun _ => 0, fun _ _ => 0, fun _ => [], fun _ => [], fun _ => none)
/-! what is well made stays so -/
theorem room_ok {there most a : Nat} {s : Rdg} (h : isOk (roomS there most a s) = true) : roomS there most a s = s ∧ there < most := by
  unfold roomS at h ⊢
  by_cases hc : most ≤ there
  · rw [if_pos hc, flP_no] at h; cases h
  · rw [if_neg hc]; exact ⟨rfl, by omega⟩
theorem nwN_ok {U : Tx} {B : Bh} {s : Rdg} (h : isOk (nwN U B s) = true) : isOk (aNm U s) = true ∧ nwN U B s = aNm U s := by
  unfold nwN at h ⊢
  by_cases hc : isOk (aNm U s) = true ∧ (fnd (ni B) (nmI B) (vNm U s) < ni B ∨ fnd (nb B) (nmB B) (vNm U s) < nb B)
  · rw [if_pos hc, flP_no] at h; cases h
  · rw [if_neg hc] at h ⊢; exact ⟨h, rfl⟩
theorem tdN_ok {U : Tx} {n : Nat} {f : Nat → List Nat} {s : Rdg} (h : isOk (tdN U n f s) = true) : isOk (aNm U s) = true ∧ tdN U n f s = aNm U s ∧ fnd n f (vNm U s) < n := by
  unfold tdN at h ⊢
  by_cases hc : isOk (aNm U s) = true ∧ fnd n f (vNm U s) = n
  · rw [if_pos hc, flP_no] at h; cases h
  · rw [if_neg hc] at h ⊢
    refine ⟨h, rfl, ?_⟩
    have := fnd_le n f (vNm U s)
    by_cases hq : fnd n f (vNm U s) = n
    · exact absurd ⟨h, hq⟩ hc
    · omega
theorem Ivr_room {U : Tx} {there most a : Nat} {s : Rdg} (h : Ivr U s) : Ivr U (roomS there most a s) := by
  unfold roomS; split
  · exact Ivr_fl
  · exact h
theorem Ivr_nw {U : Tx} {B : Bh} {s : Rdg} (h : Ivr U s) : Ivr U (nwN U B s) := by
  unfold nwN; split
  · exact Ivr_fl
  · exact Ivr_aM h
theorem Ivr_td {U : Tx} {n : Nat} {f : Nat → List Nat} {s : Rdg} (h : Ivr U s) : Ivr U (tdN U n f s) := by
  unfold tdN; split
  · exact Ivr_fl
  · exact Ivr_aM h
/-- what holds of a reading and its beach -/
def WfZ (U : Tx) (x : Rdg × Bh) : Prop := Ivr U x.1 ∧ (isOk x.1 = true → WfB x.2 ∧ flen x.2 ≤ rpos x.1)
theorem flen_eq {B B' : Bh} (h : ∀ k, frm B' k = frm B k) : flen B' = flen B := by unfold flen fl1; rw [h, h, h, h]
theorem wf_adI {B : Bh} {nm : List Nat} {dp : Nat} (h : WfB B) (hn : ni B < 8) (hd : dp ≤ 9) (hm : nm.length ≤ 6 ∧ 0 < nm.length ∧ ∀ c ∈ nm, 1 ≤ c ∧ c ≤ 26) : WfB (adI B nm dp) := by
  obtain ⟨⟨h1, h2, h3, h4, h5⟩, ⟨t1, t2, t3⟩, f, w, n, mI, mB⟩ := h
  have e : ni (adI B nm dp) = ni B + 1 := rfl
  have eD : ∀ i, dep (adI B nm dp) i = upF (B.2.1 0) (ni B) dp i := fun _ => rfl
  have eN : ∀ i, nee (adI B nm dp) i = upF (B.2.1 1) (ni B) 0 i := fun _ => rfl
  have eM : ∀ i, nmI (adI B nm dp) i = upF B.2.2.1 (ni B) nm i := fun _ => rfl
  refine ⟨⟨by rw [e]; omega, h2, h3, h4, h5⟩, ⟨fun i hi => ?_, t2, fun k hk => ⟨(t3 k hk).1, by rw [e]; exact Nat.lt_succ_of_lt (t3 k hk).2⟩⟩, f, w, fun i hi => ?_, fun i hi => ?_, mB⟩
  · rw [e] at hi
    rw [eD, eN]
    by_cases hq : i = ni B
    · rw [hq, upF_s, upF_s]; exact ⟨hd, by decide⟩
    · rw [upF_n hq, upF_n hq]; exact t1 i (by omega)
  · rw [e] at hi
    rw [eN]
    by_cases hq : i = ni B
    · rw [hq, upF_s]; exact Nat.two_pow_pos _
    · rw [upF_n hq]; exact n i (by omega)
  · rw [e] at hi
    rw [eM]
    by_cases hq : i = ni B
    · rw [hq, upF_s]; exact hm
    · rw [upF_n hq]; exact mI i (by omega)
theorem wf_adN {B : Bh} {a b : Nat} (h : WfB B) (hn : nn B < 16) (hb : b < ni B) (hab : a < b) : WfB (adN B a b) := by
  obtain ⟨⟨h1, h2, h3, h4, h5⟩, ⟨t1, t2, t3⟩, f, w, n, mI, mB⟩ := h
  have e : nn (adN B a b) = nn B + 1 := rfl
  have eN : ∀ i, nee (adN B a b) i = upF (B.2.1 1) b (nee B b ||| 2 ^ a) i := fun _ => rfl
  have hp : nee B b ||| 2 ^ a < 2 ^ b := Nat.or_lt_two_pow (n b hb) (Nat.pow_lt_pow_right (by decide) hab)
  have h8 : 2 ^ b ≤ 256 := Nat.le_trans (Nat.pow_le_pow_right (by decide) (show b ≤ 8 by omega)) (by decide)
  refine ⟨⟨h1, h2, by rw [e]; omega, h4, h5⟩, ⟨fun i hi => ?_, t2, t3⟩, f, w, fun i hi => ?_, mI, mB⟩
  · refine ⟨(t1 i hi).1, ?_⟩
    rw [eN]
    by_cases hq : i = b
    · rw [hq, upF_s]; omega
    · rw [upF_n hq]; exact (t1 i hi).2
  · rw [eN]
    by_cases hq : i = b
    · rw [hq, upF_s]; exact hp
    · rw [upF_n hq]; exact n i hi
theorem wf_adB {B : Bh} {nm : List Nat} {lu wi : Nat} (h : WfB B) (hn : nb B < 6) (hl : lu ≤ 9) (hw : wi ≤ 9) (hm : nm.length ≤ 6 ∧ 0 < nm.length ∧ ∀ c ∈ nm, 1 ≤ c ∧ c ≤ 26) : WfB (adB B nm lu wi) := by
  obtain ⟨⟨h1, h2, h3, h4, h5⟩, ⟨t1, t2, t3⟩, f, w, n, mI, mB⟩ := h
  have e : nb (adB B nm lu wi) = nb B + 1 := rfl
  have eL : ∀ i, lun (adB B nm lu wi) i = upF (B.2.1 2) (nb B) lu i := fun _ => rfl
  have eW : ∀ i, wit (adB B nm lu wi) i = upF (B.2.1 3) (nb B) wi i := fun _ => rfl
  have eM : ∀ i, nmB (adB B nm lu wi) i = upF B.2.2.2.1 (nb B) nm i := fun _ => rfl
  refine ⟨⟨h1, by rw [e]; omega, h3, h4, h5⟩, ⟨t1, fun i hi => ?_, fun k hk => ⟨by rw [e]; exact Nat.lt_succ_of_lt (t3 k hk).1, (t3 k hk).2⟩⟩, f, fun i => ?_, n, mI, fun i hi => ?_⟩
  · rw [e] at hi
    rw [eL, eW]
    by_cases hq : i = nb B
    · rw [hq, upF_s, upF_s]; exact ⟨hl, hw⟩
    · rw [upF_n hq, upF_n hq]; exact t2 i (by omega)
  · rw [eW]
    by_cases hq : i = nb B
    · rw [hq, upF_s]; exact hw
    · rw [upF_n hq]; exact w i
  · rw [e] at hi
    rw [eM]
    by_cases hq : i = nb B
    · rw [hq, upF_s]; exact hm
    · rw [upF_n hq]; exact mB i (by omega)
theorem wf_adP {B : Bh} {b i : Nat} (h : WfB B) (hn : np B < 16) (hb : b < nb B) (hi : i < ni B) : WfB (adP B b i) := by
  obtain ⟨⟨h1, h2, h3, h4, h5⟩, ⟨t1, t2, t3⟩, f, w, n, mI, mB⟩ := h
  have e : np (adP B b i) = np B + 1 := rfl
  have eB : ∀ k, plb (adP B b i) k = upF (B.2.1 4) (np B) b k := fun _ => rfl
  have eI : ∀ k, pli (adP B b i) k = upF (B.2.1 5) (np B) i k := fun _ => rfl
  refine ⟨⟨h1, h2, h3, by rw [e]; omega, h5⟩, ⟨t1, t2, fun k hk => ?_⟩, f, w, n, mI, mB⟩
  rw [e] at hk
  rw [eB, eI]
  by_cases hq : k = np B
  · rw [hq, upF_s, upF_s]; exact ⟨hb, hi⟩
  · rw [upF_n hq, upF_n hq]; exact t3 k (by omega)
theorem wf_adQ {B : Bh} {v : Nat} (h : WfB B) (hv : v ≤ 100) : WfB (adQ B v) := by
  obtain ⟨⟨h1, h2, h3, h4, h5⟩, t, f, w, n, mI, mB⟩ := h
  exact ⟨⟨h1, h2, h3, h4, hv⟩, t, f, w, n, mI, mB⟩
theorem wf_adF {B : Bh} {k : Nat} {cs : List Nat} (h : WfB B) (hl : cs.length ≤ 1600) (ht : wty k cs [] = some [Nat.beq k 3]) : WfB (adF B k cs) := by
  obtain ⟨h1, t, f, w, n, mI, mB⟩ := h
  have e : ∀ j, frm (adF B k cs) j = upF B.2.2.2.2 k (some cs) j := fun _ => rfl
  refine ⟨h1, t, fun j hj cs' hc => ?_, w, n, mI, mB⟩
  rw [e] at hc
  by_cases hq : j = k
  · subst hq
    rw [upF_s] at hc
    cases hc
    exact ⟨hl, ht⟩
  · rw [upF_n hq] at hc
    exact f j hj cs' hc
theorem fl_adF {B : Bh} {k : Nat} {cs : List Nat} (hk : k < 4) (hn : frm B k = none) : flen (adF B k cs) = flen B + cs.length := by
  have e : ∀ j, frm (adF B k cs) j = upF B.2.2.2.2 k (some cs) j := fun _ => rfl
  have e0 : ∀ j, j ≠ k → fl1 (adF B k cs) j = fl1 B j := fun j hj => by unfold fl1; rw [e, upF_n hj]; rfl
  have e1 : fl1 (adF B k cs) k = cs.length := by unfold fl1; rw [e, upF_s]
  have e2 : fl1 B k = 0 := by unfold fl1; rw [hn]
  unfold flen
  rcases (by omega : k = 0 ∨ k = 1 ∨ k = 2 ∨ k = 3) with z | z | z | z
  · subst z; rw [e1, e0 1 (by decide), e0 2 (by decide), e0 3 (by decide)]; omega
  · subst z; rw [e1, e0 0 (by decide), e0 2 (by decide), e0 3 (by decide)]; omega
  · subst z; rw [e1, e0 0 (by decide), e0 1 (by decide), e0 3 (by decide)]; omega
  · subst z; rw [e1, e0 0 (by decide), e0 1 (by decide), e0 2 (by decide)]; omega
theorem foX_l (U : Tx) (k : Nat) (e : Nat × Nat) : (foX U k (.inl e)).1 = .inl e := by
  unfold foX
  split
  · exact fl_te (D := lvl U k 5) e []
  · exact fl_sm (D := lvl U k 5) e []
/-- a formula of a beach read: where it stands, how long, how well made -/
theorem foX_ok {U : Tx} {k : Nat} (hT : TxW U) (hk : k < 4) {s : Rdg} (hI : Ivr U s) : Ivr U (foX U k s).1 ∧ (isOk (foX U k s).1 = true → isOk s = true ∧ (foX U k s).2.length + rpos s ≤ rpos (foX U k s).1 ∧ wty k (foX U k s).2 [] = some [Nat.beq k 3]) := by
  cases s with
  | inl e => rw [foX_l]; exact ⟨trivial, fun z => by cases z⟩
  | inr q =>
    unfold foX
    by_cases h3 : k = 3
    · rw [if_pos h3]
      have P := (te_fin hT (show k < 5 by omega) hI).2
      generalize (lvl U k 6).2.1 (.inr q, []) = x at *
      obtain ⟨s', out⟩ := x
      cases s' with
      | inl e => exact ⟨trivial, fun z => by cases z⟩
      | inr p =>
        obtain ⟨g1, g2, g3⟩ := P rfl
        exact ⟨g1, fun _ => ⟨rfl, g2, by rw [h3] at g3 ⊢; exact g3⟩⟩
    · rw [if_neg h3]
      have P := (su_fin hT (show k < 5 by omega) hI).2
      generalize (lvl U k 6).2.2.1 (.inr q, []) = x at *
      obtain ⟨s', out⟩ := x
      cases s' with
      | inl e => exact ⟨trivial, fun z => by cases z⟩
      | inr p =>
        obtain ⟨g1, g2, g3⟩ := P rfl
        exact ⟨g1, fun _ => ⟨rfl, g2, by rw [nbeq h3]; exact g3⟩⟩
theorem wf_idR {U : Tx} {a : Nat} {x : Rdg × Bh} (h : WfZ U x) : WfZ U (idR U a x) := by
  obtain ⟨hI, hB⟩ := h
  refine ⟨Ivr_aN (Ivr_aW (Ivr_nw (Ivr_room hI)) (by decide)), fun z => ?_⟩
  obtain ⟨z1, l1⟩ := aN_ok z
  obtain ⟨z2, l2⟩ := aW_ok z1
  obtain ⟨z3, e3⟩ := nwN_ok z2
  have z4 := aM_ok z3
  obtain ⟨e4, r4⟩ := room_ok z4.1
  have e4 : idS a x = x.1 := e4
  obtain ⟨b1, b2⟩ := hB (by rw [← e4]; exact z4.1)
  refine ⟨wf_adI b1 r4 (vNu_le U 9 _) (vN_ok z3), ?_⟩
  show flen x.2 ≤ _
  have p4 : rpos (idS a x) ≤ rpos (idA U a x) := by rw [show idA U a x = aNm U (idS a x) from e3]; exact z4.2.1
  rw [e4] at p4
  exact Nat.le_trans (Nat.le_trans b2 p4) (Nat.le_trans l2 l1)
theorem wf_ndR {U : Tx} {a : Nat} {x : Rdg × Bh} (h : WfZ U x) : WfZ U (ndR U a x) := by
  obtain ⟨hI, hB⟩ := h
  have hI4 : Ivr U (ndC U a x) := Ivr_td (Ivr_aW (Ivr_td (Ivr_room hI)) (by decide))
  unfold ndR
  by_cases hc : isOk (ndC U a x) = true ∧ (ndY U a x ≤ ndX U a x ∨ nee x.2 (ndY U a x) / 2 ^ ndX U a x % 2 = 1)
  · rw [if_pos hc]
    exact ⟨Ivr_fl, fun z => by have z : isOk (flP 3 _ _) = true := z; rw [flP_no] at z; cases z⟩
  · rw [if_neg hc]
    refine ⟨hI4, fun z => ?_⟩
    have z : isOk (ndC U a x) = true := z
    obtain ⟨z1, e1, r1⟩ := tdN_ok z
    have z1' := aM_ok z1
    obtain ⟨z2, l2⟩ := aW_ok z1'.1
    obtain ⟨z3, e3, r3⟩ := tdN_ok z2
    have z3' := aM_ok z3
    obtain ⟨e4, r4⟩ := room_ok z3'.1
    have e4 : ndS a x = x.1 := e4
    obtain ⟨b1, b2⟩ := hB (by rw [← e4]; exact z3'.1)
    have hlt : ndX U a x < ndY U a x := by
      by_cases hq : ndY U a x ≤ ndX U a x
      · exact absurd ⟨z, Or.inl hq⟩ hc
      · omega
    refine ⟨wf_adN b1 r4 r1 hlt, ?_⟩
    show flen x.2 ≤ rpos (ndC U a x)
    rw [show ndC U a x = aNm U (ndB U a x) from e1]
    have p3 : rpos (ndS a x) ≤ rpos (ndA U a x) := by rw [show ndA U a x = aNm U (ndS a x) from e3]; exact z3'.2.1
    have p2 : rpos (ndA U a x) ≤ rpos (ndB U a x) := l2
    rw [e4] at p3
    exact Nat.le_trans (Nat.le_trans b2 p3) (Nat.le_trans p2 z1'.2.1)
theorem wf_btR {U : Tx} {a : Nat} {x : Rdg × Bh} (h : WfZ U x) : WfZ U (btR U a x) := by
  obtain ⟨hI, hB⟩ := h
  refine ⟨Ivr_aN (Ivr_aW (Ivr_aN (Ivr_aW (Ivr_nw (Ivr_room hI)) (by decide))) (by decide)), fun z => ?_⟩
  obtain ⟨z1, l1⟩ := aN_ok z
  obtain ⟨z2, l2⟩ := aW_ok z1
  obtain ⟨z3, l3⟩ := aN_ok z2
  obtain ⟨z4, l4⟩ := aW_ok z3
  obtain ⟨z5, e5⟩ := nwN_ok z4
  have z6 := aM_ok z5
  obtain ⟨e6, r6⟩ := room_ok z6.1
  have e6 : btS a x = x.1 := e6
  obtain ⟨b1, b2⟩ := hB (by rw [← e6]; exact z6.1)
  refine ⟨wf_adB b1 r6 (vNu_le U 9 _) (vNu_le U 9 _) (vN_ok z5), ?_⟩
  show flen x.2 ≤ _
  have p5 : rpos (btS a x) ≤ rpos (btA U a x) := by rw [show btA U a x = aNm U (btS a x) from e5]; exact z6.2.1
  rw [e6] at p5
  exact Nat.le_trans (Nat.le_trans b2 p5) (Nat.le_trans (Nat.le_trans l4 l3) (Nat.le_trans l2 l1))
theorem wf_plR {U : Tx} {a : Nat} {x : Rdg × Bh} (h : WfZ U x) : WfZ U (plR U a x) := by
  obtain ⟨hI, hB⟩ := h
  refine ⟨Ivr_td (Ivr_aW (Ivr_td (Ivr_room hI)) (by decide)), fun z => ?_⟩
  obtain ⟨z1, e1, r1⟩ := tdN_ok z
  have z1' := aM_ok z1
  obtain ⟨z2, l2⟩ := aW_ok z1'.1
  obtain ⟨z3, e3, r3⟩ := tdN_ok z2
  have z3' := aM_ok z3
  obtain ⟨e4, r4⟩ := room_ok z3'.1
  have e4 : plS a x = x.1 := e4
  obtain ⟨b1, b2⟩ := hB (by rw [← e4]; exact z3'.1)
  refine ⟨wf_adP b1 r4 r3 r1, ?_⟩
  show flen x.2 ≤ rpos (tdN U (ni x.2) (nmI x.2) (plB U a x))
  rw [e1]
  have p3 : rpos (plS a x) ≤ rpos (plA U a x) := by rw [show plA U a x = aNm U (plS a x) from e3]; exact z3'.2.1
  have p2 : rpos (plA U a x) ≤ rpos (plB U a x) := l2
  rw [e4] at p3
  exact Nat.le_trans (Nat.le_trans b2 p3) (Nat.le_trans p2 z1'.2.1)
theorem foA_ok {k a : Nat} {x : Rdg × Bh} (h : isOk (foA k a x) = true) : foA k a x = x.1 ∧ frm x.2 k = none := by
  unfold foA at h ⊢
  by_cases hc : frm x.2 k = none
  · rw [if_pos hc]; exact ⟨rfl, hc⟩
  · rw [if_neg hc, flP_no] at h; cases h
theorem Ivr_foA {U : Tx} {k a : Nat} {x : Rdg × Bh} (h : Ivr U x.1) : Ivr U (foA k a x) := by
  unfold foA; split
  · exact h
  · exact Ivr_fl
theorem rpos_le {U : Tx} {s : Rdg} (h : Ivr U s) (ho : isOk s = true) : rpos s ≤ U.1 := by
  cases s with
  | inl e => cases ho
  | inr p => exact h.1
theorem wf_foR {U : Tx} {k a : Nat} {x : Rdg × Bh} (hT : TxW U) (hk : k < 4) (h : WfZ U x) : WfZ U (foR U k a x) := by
  obtain ⟨hI, hB⟩ := h
  obtain ⟨g1, g2⟩ := foX_ok hT hk (Ivr_foA (k := k) (a := a) hI)
  refine ⟨g1, fun z => ?_⟩
  obtain ⟨z1, z2, z3⟩ := g2 z
  obtain ⟨e1, e2⟩ := foA_ok z1
  obtain ⟨b1, b2⟩ := hB (by rw [← e1]; exact z1)
  have hle := rpos_le g1 z
  have h16 := hT.1
  refine ⟨wf_adF b1 (by omega) z3, ?_⟩
  show flen (adF _ _ _) ≤ rpos (foX U k (foA k a x)).1
  rw [fl_adF hk e2]
  rw [e1] at z2 ⊢
  omega
theorem wf_sqR {U : Tx} {x : Rdg × Bh} (h : WfZ U x) : WfZ U (sqR U x) := by
  obtain ⟨hI, hB⟩ := h
  refine ⟨Ivr_aN (Ivr_aW hI (by decide)), fun z => ?_⟩
  obtain ⟨z1, l1⟩ := aN_ok z
  obtain ⟨z2, l2⟩ := aW_ok z1
  obtain ⟨b1, b2⟩ := hB z2
  exact ⟨wf_adQ b1 (vNu_le U 100 _), Nat.le_trans b2 (Nat.le_trans l2 l1)⟩
theorem wf_tW {U : Tx} {x : Rdg × Bh} {w : List Nat} (hw : w ≠ []) (hq : wAt U x.1 = w) (h : WfZ U x) : WfZ U (tWd U w x.1, x.2) := by
  obtain ⟨hI, hB⟩ := h
  have e : tWd U w x.1 = aWd U w x.1 := by unfold tWd aWd; rw [if_pos hq, if_pos hq]
  refine ⟨by show Ivr U (tWd U w x.1); rw [e]; exact Ivr_aW hI hw, fun z => ?_⟩
  have z : isOk (tWd U w x.1) = true := z
  show WfB x.2 ∧ flen x.2 ≤ rpos (tWd U w x.1)
  rw [e] at z ⊢
  obtain ⟨z1, l1⟩ := aW_ok z
  obtain ⟨b1, b2⟩ := hB z1
  exact ⟨b1, Nat.le_trans b2 l1⟩
theorem wf_stm {U : Tx} {x : Rdg × Bh} (hT : TxW U) (h : WfZ U x) : WfZ U (stm U x) := by
  unfold stm
  split
  · exact wf_idR (wf_tW (by decide) (by assumption) h)
  · split
    · exact wf_ndR (wf_tW (by decide) (by assumption) h)
    · split
      · exact wf_btR (wf_tW (by decide) (by assumption) h)
      · split
        · exact wf_plR (wf_tW (by decide) (by assumption) h)
        · split
          · exact wf_foR hT (by decide) (wf_tW (by decide) (by assumption) h)
          · split
            · exact wf_foR hT (by decide) (wf_tW (by decide) (by assumption) h)
            · split
              · exact wf_foR hT (by decide) (wf_tW (by decide) (by assumption) h)
              · split
                · exact wf_foR hT (by decide) (wf_tW (by decide) (by assumption) h)
                · exact wf_sqR h
theorem wf_stS {U : Tx} {x : Rdg × Bh} (hT : TxW U) (h : WfZ U x) : WfZ U (stS U x) := by
  obtain ⟨hI, hB⟩ := wf_stm hT h
  refine ⟨Ivr_aS hI, fun z => ?_⟩
  obtain ⟨z1, l1⟩ := aS_ok z
  obtain ⟨b1, b2⟩ := hB z1
  exact ⟨b1, Nat.le_trans b2 (Nat.le_trans (Nat.le_succ _) l1)⟩
theorem wf_lk {U : Tx} {x : Rdg × Bh} (h : WfZ U x) : WfZ U (lkS U x.1, x.2) := by
  obtain ⟨hI, hB⟩ := h
  refine ⟨Ivr_lk hI, fun z => ?_⟩
  obtain ⟨z1, l1⟩ := lk_rp U x.1 z
  obtain ⟨b1, b2⟩ := hB z1
  exact ⟨b1, Nat.le_trans b2 l1⟩
theorem wf_bcR {U : Tx} (hT : TxW U) : ∀ (m c : Nat) (x : Rdg × Bh), m + c = 61 → WfZ U x → WfZ U (bcR U m c x).1 ∧ (bcR U m c x).2 ≤ 61 := by
  intro m
  induction m with
  | zero => intro c x hm h; exact ⟨h, by show c ≤ 61; omega⟩
  | succ m ih =>
    intro c x hm h
    show WfZ U (if lkC U x.1 = none then ((lkS U x.1, x.2), c) else if c = 60 then ((flP 5 (rpos (lkS U x.1)) (lkS U x.1), x.2), c) else bcR U m (c + 1) (stS U (lkS U x.1, x.2))).1 ∧ (if lkC U x.1 = none then ((lkS U x.1, x.2), c) else if c = 60 then ((flP 5 (rpos (lkS U x.1)) (lkS U x.1), x.2), c) else bcR U m (c + 1) (stS U (lkS U x.1, x.2))).2 ≤ 61
    by_cases h1 : lkC U x.1 = none
    · rw [if_pos h1]; exact ⟨wf_lk h, by show c ≤ 61; omega⟩
    · rw [if_neg h1]
      by_cases h2 : c = 60
      · rw [if_pos h2]; exact ⟨⟨Ivr_fl, fun z => by have z : isOk (flP 5 _ _) = true := z; rw [flP_no] at z; cases z⟩, by show c ≤ 61; omega⟩
      · rw [if_neg h2]; exact ih (c + 1) _ (by omega) (wf_stS hT (wf_lk h))
theorem wf_B00 : WfB B00 := ⟨⟨Nat.zero_le _, Nat.zero_le _, Nat.zero_le _, Nat.zero_le _, Nat.zero_le _⟩, ⟨fun i hi => absurd hi (Nat.not_lt_zero i), fun i hi => absurd hi (Nat.not_lt_zero i), fun i hi => absurd hi (Nat.not_lt_zero i)⟩, fun k _ cs h => (by cases h), fun _ => Nat.zero_le _, fun i hi => absurd hi (Nat.not_lt_zero i), fun i hi => absurd hi (Nat.not_lt_zero i), fun i hi => absurd hi (Nat.not_lt_zero i)⟩
