/-! What formulas tell, by what they see alone; the tide. -/
theorem stp_congr {see see' : Nat → Int} {k t : Nat} {ts ts' : List Bool} {st : List Int} (h : wt1 k t ts = some ts') (h1 : ∀ s, s < 9 → sOk k s = true → see s = see' s) (h2 : k = 4 → ∀ s, 9 ≤ s → s < 18 → see s = see' s) : stp see t st = stp see' t st := by
  rcases wt1_inv h with ⟨a1, a2, _, _⟩ | ⟨a0, a1, _, _, _⟩ | ⟨a1, _, _⟩ | ⟨r, a1, _, _⟩ | ⟨r, a1, a2, _, _⟩ | ⟨r, a1, _, _⟩ | ⟨r, a1, _, _⟩ | ⟨r, a1, _, _⟩
  · unfold stp; rw [if_pos a1, if_pos a1, h1 t a1 a2]
  · unfold stp; rw [if_neg a0, if_pos a1, if_neg a0, if_pos a1]
  · unfold stp; rw [if_neg (by omega), if_neg (by omega), if_pos a1, if_neg (by omega), if_neg (by omega), if_pos a1]
  · subst a1
    cases st <;> rfl
  · have e : ∀ a, one see t a = one see' t a := by
      intro a
      unfold one
      by_cases hq : a < 0 ∨ 8 ≤ a
      · rw [if_neg (by omega), if_pos hq, if_neg (by omega), if_pos hq]
      · by_cases h34 : t = 34
        · rw [if_neg (by omega), if_neg hq, if_pos h34, if_neg (by omega), if_neg hq, if_pos h34, h2 a2 _ (by omega) (by omega)]
        · rw [if_neg (by omega), if_neg hq, if_neg h34, if_neg (by omega), if_neg hq, if_neg h34, h2 a2 9 (by omega) (by omega)]
    unfold stp
    rw [if_neg (by omega), if_neg (by omega), if_neg (by omega), if_pos (by omega), if_neg (by omega), if_neg (by omega), if_neg (by omega), if_pos (by omega)]
    cases st with
    | nil => rfl
    | cons a st => simp only [e]
  all_goals
    unfold stp
    rw [if_neg (by omega), if_neg (by omega), if_neg (by omega), if_neg (by omega), if_neg (by omega), if_neg (by omega), if_neg (by omega), if_neg (by omega)]
theorem evs_congr {see see' : Nat → Int} {k : Nat} (h1 : ∀ s, s < 9 → sOk k s = true → see s = see' s) (h2 : k = 4 → ∀ s, 9 ≤ s → s < 18 → see s = see' s) : ∀ (cs : List Nat) (ts tf : List Bool) (st : List Int), wty k cs ts = some tf → evs see cs st = evs see' cs st := by
  intro cs
  induction cs with
  | nil => intro ts tf st _; rfl
  | cons t cs ih =>
    intro ts tf st h
    unfold wty at h
    cases hw : wt1 k t ts with
    | none => rw [hw] at h; cases h
    | some r =>
      rw [hw] at h
      show evs see cs (stp see t st) = evs see' cs (stp see' t st)
      rw [stp_congr hw h1 h2]
      exact ih r tf _ h
theorem evF_congr {see see' : Nat → Int} {k : Nat} {cs : List Nat} {tf : List Bool} (h : wty k cs [] = some tf) (h1 : ∀ s, s < 9 → sOk k s = true → see s = see' s) (h2 : k = 4 → ∀ s, 9 ≤ s → s < 18 → see s = see' s) : evF see cs = evF see' cs := by
  unfold evF
  rw [evs_congr h1 h2 cs [] tf [] h]
/-- a value cut to bounds -/
def btw (lo hi : Nat) (z : Int) : Nat := if z < lo then lo else if (hi : Int) < z then hi else z.toNat
theorem btw_le {lo hi : Nat} (h : lo ≤ hi) (z : Int) : lo ≤ btw lo hi z ∧ btw lo hi z ≤ hi := by
  unfold btw
  by_cases h1 : z < lo
  · rw [if_pos h1]; omega
  · rw [if_neg h1]
    by_cases h2 : (hi : Int) < z
    · rw [if_pos h2]; omega
    · rw [if_neg h2]; omega
/-- the formulas of a beach that are not told -/
def unt : Nat → List Nat
  | 0 => [2336]
  | 1 => [5152, 2, 1312, 38, 36, 1, 37]
  | 2 => [6, 288, 37]
  | _ => [288]
def cod (B : Bh) (k : Nat) : List Nat := match frm B k with
  | some cs => cs
  | none => unt k
def WfF (B : Bh) : Prop := ∀ k, k < 4 → ∀ cs, frm B k = some cs → cs.length ≤ 1600 ∧ wty k cs [] = some [Nat.beq k 3]
def tdM (B : Bh) (h : Nat) : Nat := btw 0 9 (evF (fun s => ((seeF B (fun _ => 0) 0 0 h 0 0 0 0 s : Nat) : Int)) (cod B 0))
theorem tdM_le (B : Bh) (h : Nat) : tdM B h ≤ 9 := (btw_le (by decide) _).2
theorem tdM_none {B : Bh} {h : Nat} (hf : frm B 0 = none) : tdM B h = 9 := by
  unfold tdM cod
  rw [hf]
  rfl
theorem cut_btw {v : Int64} {z : Int} {lo hi : Nat} (hv : v = lI z) (hz : Bl z) (hl : lo ≤ 1000) (hh : hi ≤ 1000) : (if v < (nI lo).toInt64 then nI lo else if (nI hi).toInt64 < v then nI hi else v.toInt32) = nI (btw lo hi z) := by
  subst hv
  have e1 : lI z < (nI lo).toInt64 ↔ z < (lo : Int) := by rw [Int64.lt_iff_toInt_lt, z_lL hz, l_of, nI_toInt (by omega)]
  have e2 : (nI hi).toInt64 < lI z ↔ (hi : Int) < z := by rw [Int64.lt_iff_toInt_lt, z_lL hz, l_of, nI_toInt (by omega)]
  unfold btw
  by_cases h1 : z < (lo : Int)
  · rw [if_pos (e1.mpr h1), if_pos h1]
  · rw [if_neg (fun q => h1 (e1.mp q)), if_neg h1]
    by_cases h2 : (hi : Int) < z
    · rw [if_pos (e2.mpr h2), if_pos h2]
    · rw [if_neg (fun q => h2 (e2.mp q)), if_neg h2]
      apply Int32.toInt_inj.mp
      rw [Int64.toInt_toInt32, z_lL hz, nI_toInt (by omega), bm32 (by omega)]
      omega
