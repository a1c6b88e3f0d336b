/-! A beach, the strengths; what is counted of them. -/
/-- numbers (0 ideas, 1 bathers, 2 needs told, 3 rows of the plan, 4 squall), tables (0 depth, 1 needs, 2 lung, 3 wits, 4 and 5 the rows of the plan), names of ideas and of bathers, formulas told -/
abbrev Bh : Type := (Nat → Nat) × (Nat → Nat → Nat) × (Nat → List Nat) × (Nat → List Nat) × (Nat → Option (List Nat))
def ni (B : Bh) : Nat := B.1 0
def nb (B : Bh) : Nat := B.1 1
def nn (B : Bh) : Nat := B.1 2
def np (B : Bh) : Nat := B.1 3
def sq (B : Bh) : Nat := B.1 4
def dep (B : Bh) (i : Nat) : Nat := B.2.1 0 i
def nee (B : Bh) (i : Nat) : Nat := B.2.1 1 i
def lun (B : Bh) (b : Nat) : Nat := B.2.1 2 b
def wit (B : Bh) (b : Nat) : Nat := B.2.1 3 b
def plb (B : Bh) (k : Nat) : Nat := B.2.1 4 k
def pli (B : Bh) (k : Nat) : Nat := B.2.1 5 k
def nmI (B : Bh) (i : Nat) : List Nat := B.2.2.1 i
def nmB (B : Bh) (b : Nat) : List Nat := B.2.2.2.1 b
def frm (B : Bh) (k : Nat) : Option (List Nat) := B.2.2.2.2 k
def WfN (B : Bh) : Prop := ni B ≤ 8 ∧ nb B ≤ 6 ∧ nn B ≤ 16 ∧ np B ≤ 16 ∧ sq B ≤ 100
def WfT (B : Bh) : Prop := (∀ i, i < ni B → dep B i ≤ 9 ∧ nee B i < 256) ∧ (∀ b, b < nb B → lun B b ≤ 9 ∧ wit B b ≤ 9) ∧ ∀ k, k < np B → plb B k < nb B ∧ pli B k < ni B
abbrev Str : Type := Nat → Nat → Nat
def WfS (B : Bh) (S : Str) : Prop := ∀ b i, S b i ≤ 99 ∧ (nb B ≤ b ∨ ni B ≤ i → S b i = 0)
def kset : Nat → (Nat → Nat) → Nat
  | 0, _ => 0
  | n + 1, f => kset n f + (if 0 < f n then 2 ^ n else 0)
def sumf : Nat → (Nat → Nat) → Nat
  | 0, _ => 0
  | n + 1, f => sumf n f + f n
def pc (s : Nat) : Nat := s % 2 + s / 2 % 2 + s / 4 % 2 + s / 8 % 2 + s / 16 % 2 + s / 32 % 2 + s / 64 % 2 + s / 128 % 2
theorem kset_lt (n : Nat) (f : Nat → Nat) : kset n f < 2 ^ n := by
  induction n with
  | zero => exact Nat.zero_lt_one
  | succ n ih =>
    unfold kset
    rw [Nat.pow_succ]
    by_cases h : 0 < f n
    · rw [if_pos h]; omega
    · rw [if_neg h]; omega
theorem sumf_le {n m : Nat} {f : Nat → Nat} (h : ∀ k, k < n → f k ≤ m) : sumf n f ≤ n * m := by
  induction n with
  | zero => exact Nat.zero_le _
  | succ n ih =>
    unfold sumf
    have := ih (fun k hk => h k (by omega))
    have := h n (by omega)
    rw [Nat.add_mul, Nat.one_mul]
    omega
theorem sumf_congr {n : Nat} {f g : Nat → Nat} (h : ∀ k, k < n → f k = g k) : sumf n f = sumf n g := by
  induction n with
  | zero => rfl
  | succ n ih =>
    unfold sumf
    rw [ih (fun k hk => h k (by omega)), h n (by omega)]
theorem kset_congr {n : Nat} {f g : Nat → Nat} (h : ∀ k, k < n → f k = g k) : kset n f = kset n g := by
  induction n with
  | zero => rfl
  | succ n ih =>
    unfold kset
    rw [ih (fun k hk => h k (by omega)), h n (by omega)]
theorem kset_zero {n m : Nat} {f : Nat → Nat} (h : ∀ k, n ≤ k → f k = 0) (hm : n ≤ m) : kset m f = kset n f := by
  induction m with
  | zero => rw [show n = 0 by omega]
  | succ m ih =>
    by_cases hn : n = m + 1
    · rw [hn]
    · show kset m f + (if 0 < f m then 2 ^ m else 0) = kset n f
      rw [ih (by omega), h m (by omega)]
      rfl
theorem sumf_zero {n m : Nat} {f : Nat → Nat} (h : ∀ k, n ≤ k → f k = 0) (hm : n ≤ m) : sumf m f = sumf n f := by
  induction m with
  | zero => rw [show n = 0 by omega]
  | succ m ih =>
    by_cases hn : n = m + 1
    · rw [hn]
    · show sumf m f + f m = sumf n f
      rw [ih (by omega), h m (by omega)]
      rfl
theorem pc_step : ∀ s, s < 256 → s ≠ 0 → pc (s &&& (s - 1)) + 1 = pc s := by decide +kernel
theorem pc_bit : ∀ s, s < 256 → bitC (nI s) = nI (pc s) := by decide +kernel
theorem pc_le (s : Nat) : pc s ≤ 8 := by unfold pc; omega
theorem nI_and (a b : Nat) : nI a &&& nI b = nI (a &&& b) := by
  apply Int32.toBitVec_inj.mp
  apply BitVec.eq_of_toNat_eq
  show (BitVec.ofNat 32 a &&& BitVec.ofNat 32 b).toNat = (BitVec.ofNat 32 (a &&& b)).toNat
  rw [BitVec.toNat_and, BitVec.toNat_ofNat, BitVec.toNat_ofNat, BitVec.toNat_ofNat, Nat.and_mod_two_pow]
theorem nI_or (a b : Nat) : nI a ||| nI b = nI (a ||| b) := by
  apply Int32.toBitVec_inj.mp
  apply BitVec.eq_of_toNat_eq
  show (BitVec.ofNat 32 a ||| BitVec.ofNat 32 b).toNat = (BitVec.ofNat 32 (a ||| b)).toNat
  rw [BitVec.toNat_or, BitVec.toNat_ofNat, BitVec.toNat_ofNat, BitVec.toNat_ofNat, Nat.or_mod_two_pow]
theorem or_pow {a n : Nat} (h : a < 2 ^ n) : a ||| 2 ^ n = a + 2 ^ n := by
  have := Nat.two_pow_add_eq_or_of_lt h 1
  rw [Nat.mul_one] at this
  rw [Nat.or_comm, ← this, Nat.add_comm]
theorem shl_1 : ∀ j, j < 31 → (1 : Int32) <<< (nI j &&& 31) = nI (2 ^ j) := by decide +kernel
theorem set_bit {a n : Nat} (h : a < 2 ^ n) (hn : n < 31) : nI a ||| ((1 : Int32) <<< (nI n &&& 31)) = nI (a + 2 ^ n) := by rw [shl_1 n hn, nI_or, or_pow h]
/-- whether what is needed is known -/
def rtd (B : Bh) (known i : Nat) : Bool := decide (nI (nee B i) &&& (nI known ^^^ -1) = 0)
