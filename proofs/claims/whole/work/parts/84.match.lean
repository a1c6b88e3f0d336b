/-! A match: the table of the best, from the last bather back; the class. -/
def mtW (f nx : Nat → Nat) (s i : Nat) : Option Nat := if f i = 0 ∨ s / 2 ^ i % 2 = 1 then none else some (f i + nx (s ||| 2 ^ i))
def mxO (a : Nat) : Option Nat → Nat
  | none => a
  | some v => if a < v then v else a
def mG (f nx : Nat → Nat) (s : Nat) : Nat → Nat
  | 0 => nx s
  | k + 1 => mxO (mG f nx s k) (mtW f nx s k)
def mT (g : Nat → Nat → Nat) (n m : Nat) : Nat → Nat → Nat
  | 0 => fun _ => 0
  | k + 1 => fun s => mG (g (m - (k + 1))) (mT g n m k) s n
/-- the best from a bather on, when some ideas are taken -/
def mB (g : Nat → Nat → Nat) (n m b : Nat) : Nat → Nat := mT g n m (m - b)
theorem mB_m (g : Nat → Nat → Nat) (n m s : Nat) : mB g n m m s = 0 := by unfold mB; rw [Nat.sub_self]; rfl
theorem mB_s {g : Nat → Nat → Nat} {n m b : Nat} (h : b < m) (s : Nat) : mB g n m b s = mG (g b) (mB g n m (b + 1)) s n := by
  unfold mB
  rw [show m - b = (m - (b + 1)) + 1 by omega]
  show mG (g (m - (m - (b + 1) + 1))) (mT g n m (m - (b + 1))) s n = _
  rw [show m - (m - (b + 1) + 1) = b by omega]
theorem mW_le {f nx : Nat → Nat} {s i c v : Nat} (hf : ∀ i, f i ≤ 99) (hn : ∀ s, nx s ≤ c) (h : mtW f nx s i = some v) : v ≤ c + 99 := by
  unfold mtW at h
  split at h
  · cases h
  · have := Option.some.inj h
    have a1 := hf i
    have a2 := hn (s ||| 2 ^ i)
    omega
theorem mG_le {f nx : Nat → Nat} {s c : Nat} (hf : ∀ i, f i ≤ 99) (hn : ∀ s, nx s ≤ c) (k : Nat) : mG f nx s k ≤ c + 99 := by
  induction k with
  | zero => exact Nat.le_trans (hn s) (by omega)
  | succ k ih =>
    show mxO (mG f nx s k) (mtW f nx s k) ≤ _
    cases hw : mtW f nx s k with
    | none => exact ih
    | some v =>
      have := mW_le hf hn hw
      show (if mG f nx s k < v then v else mG f nx s k) ≤ _
      split
      · exact this
      · exact ih
theorem mT_le {g : Nat → Nat → Nat} {n m : Nat} (hg : ∀ b i, g b i ≤ 99) (k : Nat) : ∀ s, mT g n m k s ≤ 99 * k := by
  induction k with
  | zero => exact fun _ => Nat.le_refl _
  | succ k ih => exact fun s => Nat.le_trans (mG_le (hg _) ih n) (by omega)
theorem mB_le {g : Nat → Nat → Nat} {n m b : Nat} (hg : ∀ b i, g b i ≤ 99) (hm : m ≤ 6) (s : Nat) : mB g n m b s ≤ 594 := by
  have := mT_le (n := n) (m := m) hg (m - b) s
  unfold mB
  omega
/-- the first idea by which the best is come to -/
def mF (f nx : Nat → Nat) (s best : Nat) : Nat → Nat → Option Nat
  | 0, _ => none
  | m + 1, k => if mtW f nx s k = some best then some k else mF f nx s best m (k + 1)
def mP (g : Nat → Nat → Nat) (n m b s : Nat) : Option Nat := if mB g n m (b + 1) s < mB g n m b s then mF (g b) (mB g n m (b + 1)) s (mB g n m b s) n 0 else none
def tkS (s : Nat) : Option Nat → Nat
  | none => s
  | some i => s ||| 2 ^ i
/-- what is taken ahead of a bather -/
def mtS (g : Nat → Nat → Nat) (n m : Nat) : Nat → Nat
  | 0 => 0
  | b + 1 => tkS (mtS g n m b) (mP g n m b (mtS g n m b))
theorem or_256 : ∀ s, s < 256 → ∀ i, i < 8 → s ||| 2 ^ i < 256 := fun s hs i hi => Nat.or_lt_two_pow (n := 8) hs (Nat.lt_of_le_of_lt (Nat.pow_le_pow_right (by decide) (show i ≤ 7 by omega)) (by decide))
theorem mF_lt {f nx : Nat → Nat} {s best i n : Nat} : ∀ (m k : Nat), k + m = n → mF f nx s best m k = some i → k ≤ i ∧ i < n ∧ mtW f nx s i = some best := by
  intro m
  induction m with
  | zero => intro k _ h; cases h
  | succ m ih =>
    intro k hk h
    unfold mF at h
    split at h
    · cases h; exact ⟨Nat.le_refl _, by omega, by assumption⟩
    · have := ih (k + 1) (by omega) h; exact ⟨by omega, this.2⟩
theorem mP_lt {g : Nat → Nat → Nat} {n m b s i : Nat} (h : mP g n m b s = some i) : i < n := by
  unfold mP at h
  split at h
  · exact (mF_lt n 0 (by omega) h).2.1
  · cases h
theorem mS_lt {g : Nat → Nat → Nat} {n m : Nat} (hn : n ≤ 8) (b : Nat) : mtS g n m b < 256 := by
  induction b with
  | zero => exact Nat.zero_lt_succ 255
  | succ b ih =>
    show tkS (mtS g n m b) (mP g n m b (mtS g n m b)) < 256
    cases hp : mP g n m b (mtS g n m b) with
    | none => exact ih
    | some i => exact or_256 _ ih _ (by have := mP_lt hp; omega)
theorem mxO_ev {a : Nat} {o : Option Nat} (ha : a < 2 ^ 31) (ho : ∀ v, o = some v → v < 2 ^ 31) : (if nI a < plV o then plV o else nI a) = nI (mxO a o) := by
  cases o with
  | none =>
    show (if nI a < (-1 : Int32) then (-1 : Int32) else nI a) = nI a
    rw [if_neg (fun z => by
      rw [Int32.lt_iff_toInt_lt, nI_toInt ha] at z
      have e : (-1 : Int32).toInt = -1 := rfl
      omega)]
  | some v =>
    show (if nI a < nI v then nI v else nI a) = nI (if a < v then v else a)
    by_cases h : a < v
    · rw [if_pos h, if_pos (nI_lt h (ho v rfl))]
    · rw [if_neg h, if_neg (fun z => h ((nI_ltI ha (ho v rfl)).mp z))]
theorem plV_eq {o : Option Nat} {a : Nat} (ha : a < 2 ^ 31) (ho : ∀ v, o = some v → v < 2 ^ 31) : plV o = nI a ↔ o = some a := by
  cases o with
  | none => exact ⟨fun z => absurd z.symm (nI_m1 ha), fun z => by cases z⟩
  | some v =>
    show nI v = nI a ↔ _
    rw [nI_eq (ho v rfl) ha]
    exact ⟨fun z => by rw [z], fun z => Option.some.inj z⟩
theorem rf288 {ρ : Rf} (hρ : RF ρ) {b : Nat} (hb : b < 6) : ρ 288 b = some (289 + b) := by
  rcases (by omega : b = 0 ∨ b = 1 ∨ b = 2 ∨ b = 3 ∨ b = 4 ∨ b = 5) with rfl | rfl | rfl | rfl | rfl | rfl <;> exact hρ _ _ _ rfl
theorem rowA {b : Nat} (hb : b < 6) : RowO (289 + b) := by
  rcases (by omega : b = 0 ∨ b = 1 ∨ b = 2 ∨ b = 3 ∨ b = 4 ∨ b = 5) with rfl | rfl | rfl | rfl | rfl | rfl <;> exact ⟨rfl, rfl, by decide, by decide, by decide, by decide⟩
theorem rf295 {ρ : Rf} (hρ : RF ρ) {b : Nat} (hb : b < 7) : ρ 295 b = some (296 + b) := by
  rcases (by omega : b = 0 ∨ b = 1 ∨ b = 2 ∨ b = 3 ∨ b = 4 ∨ b = 5 ∨ b = 6) with rfl | rfl | rfl | rfl | rfl | rfl | rfl <;> exact hρ _ _ _ rfl
theorem rowB {b : Nat} (hb : b < 7) : isA 402 (296 + b) 0 = true ∧ (shp (296 + b)).2 = 256 := by
  rcases (by omega : b = 0 ∨ b = 1 ∨ b = 2 ∨ b = 3 ∨ b = 4 ∨ b = 5 ∨ b = 6) with rfl | rfl | rfl | rfl | rfl | rfl | rfl <;> exact ⟨rfl, rfl⟩
/-- what the table's cells hold -/
def CTb (σ : St) (b : Nat) (nx : Nat → Nat) : Prop := ∀ s, s < 256 → σ.1 (296 + b) s = nI (nx s)
theorem CRd.cx {ρ : Rf} {σ σ' : St} {q : Nat} {B : Bh} (H : CRd ρ σ q B) (h : CF cX σ σ') : CRd ρ σ' q B := by
  refine H.cf h (fun k j hk => ?_) rfl
  unfold cB at hk
  simp only [Bool.and_eq_true, Bool.not_eq_true', Nat.blt_eq] at hk
  exact cX_f ⟨fun z => by rw [z] at hk; exact absurd hk.1.2 (by decide), fun z => by rw [z] at hk; exact absurd hk.2 (by decide), by omega, by omega, by omega⟩
theorem cX_t {k j : Nat} (h : 267 < k) (h2 : k ≤ 314) : cX k j = true := by
  unfold cX
  rw [show Nat.ble 267 k = true from Nat.ble_eq.mpr (by omega), show Nat.ble k 314 = true from Nat.ble_eq.mpr h2, nbeq (show k ≠ 267 by omega)]
  exact Bool.or_true _
section S84
variable {l : Launch} {X : Cx} {ρ : Rf} {B : Bh} {q : Nat}
theorem t_bestWith (d : Nat) {b i s : Nat} {σ : St} {f nx : Nat → Nat} (hρ : RF ρ) (hb : b < 6) (hi : i < 8) (hs : s < 256) (hg : σ.1 (289 + b) i = nI (f i)) (hf : ∀ i, f i ≤ 99) (hn : CTb σ (b + 1) nx) (hnx : ∀ s, nx s ≤ 594) :
    T l X d 24 [.ref 267, .int (nI b), .int (nI i), .int (nI s)] 402 402 ρ σ (Rs (.int (plV (mtW f nx s i))) ρ σ) := by
  have f99 := hf i
  have hor := or_256 s hs i hi
  refine T_of rfl ?_
  refine Ev_aload rfl rfl rfl ?_
  refine Ev_getR rfl (by first | rfl | assumption) (hρ _ _ _ rfl) ?_
  refine Ev_iload rfl rfl ?_
  refine Ev_aald (t := 4) rfl (Or.inl rfl) (by first | rfl | assumption) (vp_in_nI (n := b) (show b < 6 from hb) (by decide)) (by rw [nI_clamp (by omega)]; exact rf288 hρ hb : _ = some (289 + b)) ?_
  refine Ev_iload rfl rfl ?_
  refine Ev_iald rfl ((rowA hb).1) (by rw [(rowA hb).2.1]; exact vp_in_nI (n := i) hi (by decide)) ?_
  refine Ev_norm (by rw [nI_clamp (by omega)]; exact hg : _ = nI (f i)) ?_
  refine Ev_if_eq rfl (fun h8 => ?_) (fun h8 => ?_)
  · refine Ev_const rfl ?_
    exact Ev_ireturn rfl rfl rfl rfl ⟨by
    have h0 : f i = 0 := Decidable.byContradiction fun z => absurd h8 (nI_ne0 (Nat.pos_of_ne_zero z) (by omega))
    unfold mtW; rw [if_pos (Or.inl h0)]; rfl, rfl, rfl⟩
  · refine Ev_iload rfl rfl ?_
    refine Ev_iload rfl rfl ?_
    refine Ev_ishr rfl ?_
    refine Ev_const rfl ?_
    refine Ev_iand rfl ?_
    refine Ev_norm (sh_8 hs hi) ?_
    refine Ev_if_eq rfl (fun h16 => ?_) (fun h16 => ?_)
    · refine Ev_aload rfl rfl rfl ?_
      refine Ev_getR rfl (by first | rfl | assumption) (hρ _ _ _ rfl) ?_
      refine Ev_iload rfl rfl ?_
      refine Ev_aald (t := 4) rfl (Or.inl rfl) (by first | rfl | assumption) (vp_in_nI (n := b) (show b < 6 from hb) (by decide)) (by rw [nI_clamp (by omega)]; exact rf288 hρ hb : _ = some (289 + b)) ?_
      refine Ev_iload rfl rfl ?_
      refine Ev_iald rfl ((rowA hb).1) (by rw [(rowA hb).2.1]; exact vp_in_nI (n := i) hi (by decide)) ?_
      refine Ev_norm (by rw [nI_clamp (by omega)]; exact hg : _ = nI (f i)) ?_
      refine Ev_aload rfl rfl rfl ?_
      refine Ev_getR rfl (by first | rfl | assumption) (hρ _ _ _ rfl) ?_
      refine Ev_iload rfl rfl ?_
      refine Ev_const rfl ?_
      refine Ev_iadd rfl ?_
      refine Ev_norm (nI_1 b) ?_
      refine Ev_aald (t := 4) rfl (Or.inl rfl) (by first | rfl | assumption) (vp_in_nI (n := b + 1) (show b + 1 < 7 by omega) (by decide)) (by rw [nI_clamp (by omega)]; exact rf295 hρ (by omega) : _ = some (296 + (b + 1))) ?_
      refine Ev_iload rfl rfl ?_
      refine Ev_const rfl ?_
      refine Ev_iload rfl rfl ?_
      refine Ev_ishl rfl ?_
      refine Ev_norm (shl_1 i (by omega)) ?_
      refine Ev_ior rfl ?_
      refine Ev_norm (nI_or s (2 ^ i)) ?_
      refine Ev_iald rfl ((rowB (show b + 1 < 7 by omega)).1) (by rw [(rowB (show b + 1 < 7 by omega)).2]; exact vp_in_nI (n := s ||| 2 ^ i) hor (by decide)) ?_
      refine Ev_norm (by rw [nI_clamp (by omega)]; exact hn _ hor : _ = nI (nx (s ||| 2 ^ i))) ?_
      refine Ev_iadd rfl ?_
      refine Ev_norm (nI_add (f i) (nx (s ||| 2 ^ i))) ?_
      exact Ev_ireturn rfl rfl rfl rfl ⟨by
      have h0 : ¬ f i = 0 := fun z => h8 (by rw [z]; decide)
      have h1 : ¬ s / 2 ^ i % 2 = 1 := fun z => by rw [z] at h16; exact absurd h16 (by decide)
      unfold mtW; rw [if_neg (fun z => z.elim h0 h1)]; rfl, rfl, rfl⟩
    · refine Ev_const rfl ?_
      exact Ev_ireturn rfl rfl rfl rfl ⟨by
      have h1 : s / 2 ^ i % 2 = 1 := by
        rcases Nat.mod_two_eq_zero_or_one (s / 2 ^ i) with h | h
        · rw [h] at h16; exact absurd rfl h16
        · exact h
      unfold mtW; rw [if_pos (Or.inr h1)]; rfl, rfl, rfl⟩
theorem mW_lt {f nx : Nat → Nat} {s i v : Nat} (hf : ∀ i, f i ≤ 99) (hn : ∀ s, nx s ≤ 594) (h : mtW f nx s i = some v) : v < 2 ^ 31 := by have := mW_le hf hn h; omega
theorem t_bestFrom (d : Nat) {b s : Nat} {σ : St} {f nx : Nat → Nat} (hR : CRd ρ σ q B) (hW : WfN B) (hb : b < 6) (hs : s < 256) (hg : ∀ i, i < ni B → σ.1 (289 + b) i = nI (f i)) (hf : ∀ i, f i ≤ 99) (hn : CTb σ (b + 1) nx) (hnx : ∀ s, nx s ≤ 594) :
    T l X (d + 1) 23 [.ref 267, .int (nI b), .int (nI s)] 402 402 ρ σ (Rs (.int (nI (mG f nx s (ni B)))) ρ σ) := by
  have hρ := hR.1
  have n8 := hW.1
  have key : ∀ (m k : Nat), k + m = ni B → Ev l X (d + 1) 23 14 [.ref 267, .int (nI b), .int (nI s), .int (nI (mG f nx s k)), .int (nI k)] [] 402 402 402 ρ σ (Rs (.int (nI (mG f nx s (ni B)))) ρ σ) := by
    intro m
    induction m with
    | zero =>
      intro k hk
      have hk : k = ni B := by omega
      subst hk
      refine Ev_iload rfl rfl ?_
      refine Ev_aload rfl rfl rfl ?_
      refine Ev_getR rfl (by first | rfl | assumption) (hρ _ _ _ rfl) ?_
      refine Ev_getR rfl (by first | rfl | assumption) hR.2.2.1 ?_
      refine Ev_getI rfl (by rcases hR.2.1 with rfl | rfl <;> rfl) ?_
      refine Ev_norm hR.2.2.2.1.1 ?_
      refine Ev_icmp_ge rfl (fun h26 => ?_) (fun h26 => absurd (nI_le (Nat.le_refl _) (by omega)) h26)
      refine Ev_iload rfl rfl ?_
      exact Ev_ireturn rfl rfl rfl rfl ⟨rfl, rfl, rfl⟩
    | succ m ih =>
      intro k hk
      have a1 := mG_le (s := s) hf hnx k
      refine Ev_iload rfl rfl ?_
      refine Ev_aload rfl rfl rfl ?_
      refine Ev_getR rfl (by first | rfl | assumption) (hρ _ _ _ rfl) ?_
      refine Ev_getR rfl (by first | rfl | assumption) hR.2.2.1 ?_
      refine Ev_getI rfl (by rcases hR.2.1 with rfl | rfl <;> rfl) ?_
      refine Ev_norm hR.2.2.2.1.1 ?_
      refine Ev_icmp_ge rfl (fun h26 => absurd h26 (nI_ge (by omega) (by omega))) (fun h26 => ?_)
      refine Ev_iload rfl rfl ?_
      refine Ev_aload rfl rfl rfl ?_
      refine Ev_iload rfl rfl ?_
      refine Ev_iload rfl rfl ?_
      refine Ev_iload rfl rfl ?_
      refine Ev_callV rfl rfl rfl rfl rfl (same_n 402) (t_bestWith _ hρ hb (by omega) hs (hg k (by omega)) hf hn hnx) ?_
      rintro v35 ρ35 σ35 ⟨rfl, e35, g35⟩
      obtain rfl := e35.symm
      obtain rfl := g35.symm
      refine Ev_callS rfl rfl rfl rfl (same_n 402) (t_max _ _ _) ?_
      rintro v38 ρ38 σ38 ⟨rfl, e38, g38⟩
      obtain rfl := e38.symm
      obtain rfl := g38.symm
      refine Ev_norm (mxO_ev (by omega) (fun v hv => mW_lt hf hnx hv)) ?_
      refine Ev_istore rfl ?_
      refine Ev_iincE rfl rfl (nI_1 k) ?_
      refine Ev_goto rfl ?_
      exact ih (k + 1) (by omega)
  refine T_of rfl ?_
  refine Ev_aload rfl rfl rfl ?_
  refine Ev_getR rfl (by first | rfl | assumption) (hρ _ _ _ rfl) ?_
  refine Ev_iload rfl rfl ?_
  refine Ev_const rfl ?_
  refine Ev_iadd rfl ?_
  refine Ev_norm (nI_1 b) ?_
  refine Ev_aald (t := 4) rfl (Or.inl rfl) (by first | rfl | assumption) (vp_in_nI (n := b + 1) (show b + 1 < 7 by omega) (by decide)) (by rw [nI_clamp (by omega)]; exact rf295 hρ (by omega) : _ = some (296 + (b + 1))) ?_
  refine Ev_iload rfl rfl ?_
  refine Ev_iald rfl ((rowB (show b + 1 < 7 by omega)).1) (by rw [(rowB (show b + 1 < 7 by omega)).2]; exact vp_in_nI (n := s) hs (by decide)) ?_
  refine Ev_norm (by rw [nI_clamp (by omega)]; exact hn s hs : _ = nI (mG f nx s 0)) ?_
  refine Ev_istore rfl ?_
  refine Ev_const rfl ?_
  refine Ev_istore rfl ?_
  exact key (ni B) 0 (by omega)
/-- the picks, one bather behind another -/
theorem t_pickAlong (d : Nat) {σ : St} {g : Nat → Nat → Nat} (hR : CRd ρ σ q B) (hW : WfN B) (hG : ∀ b, b < nb B → ∀ i, i < ni B → σ.1 (289 + b) i = nI (g b i)) (hg : ∀ b i, g b i ≤ 99) (hT : ∀ b, b ≤ nb B → CTb σ b (mB g (ni B) (nb B) b)) :
    T l X (d + 1) 25 [.ref 267, .int (nI (nb B))] 402 402 ρ σ (fun v ρ' σ' => v = none ∧ ρ' = ρ ∧ ∃ f, σ' = sI σ 303 f ∧ ∀ b, b < nb B → f b = plV (mP g (ni B) (nb B) b (mtS g (ni B) (nb B) b))) := by
  have hρ := hR.1
  have n8 := hW.1
  have n6 := hW.2.1
  have hle : ∀ b s, mB g (ni B) (nb B) b s ≤ 594 := fun b s => mB_le hg n6 s
  have key : ∀ (m b : Nat) (f : Nat → Int32) (w4 w5 : Value), b + m = nb B → (∀ b', b' < b → f b' = plV (mP g (ni B) (nb B) b' (mtS g (ni B) (nb B) b'))) →
      Ev l X (d + 1) 25 4 [.ref 267, .int (nI (nb B)), .int (nI (mtS g (ni B) (nb B) b)), .int (nI b), w4, w5] [] 402 402 402 ρ (sI σ 303 f) (fun v ρ' σ' => v = none ∧ ρ' = ρ ∧ ∃ f, σ' = sI σ 303 f ∧ ∀ b, b < nb B → f b = plV (mP g (ni B) (nb B) b (mtS g (ni B) (nb B) b))) := by
    intro m
    induction m with
    | zero =>
      intro b f w4 w5 hb hf
      have hb : b = nb B := by omega
      subst hb
      refine Ev_iload rfl rfl ?_
      refine Ev_iload rfl rfl ?_
      refine Ev_icmp_ge rfl (fun h6 => ?_) (fun h6 => absurd (nI_le (Nat.le_refl _) (by omega)) h6)
      exact Ev_return rfl rfl rfl ⟨rfl, rfl, f, rfl, hf⟩
    | succ m ih =>
      intro b f w4 w5 hb hf
      have hs := mS_lt (g := g) (m := nb B) n8 b
      generalize hse : mtS g (ni B) (nb B) b = s at hs
      have hT1 : ∀ f' : Nat → Int32, CTb (sI σ 303 f') b (mB g (ni B) (nb B) b) := fun f' s hs => by rw [sR_1 _ _ (by omega)]; exact hT b (by omega) s hs
      have hT2 : ∀ f' : Nat → Int32, CTb (sI σ 303 f') (b + 1) (mB g (ni B) (nb B) (b + 1)) := fun f' s hs => by rw [sR_1 _ _ (by omega)]; exact hT (b + 1) (by omega) s hs
      have hR' : ∀ f' : Nat → Int32, CRd ρ (sI σ 303 f') q B := fun f' => hR.cx (CF.cell σ f' (fun j => cX_t (by decide) (by decide)))
      have hG' : ∀ (f' : Nat → Int32) i, i < ni B → (sI σ 303 f').1 (289 + b) i = nI (g b i) := fun f' i hi => by rw [sR_1 _ _ (by omega)]; exact hG b (by omega) i hi
      have a1 := hle b s
      have a2 := hle (b + 1) s
      -- behind the pick
      have fin : ∀ (f1 : Nat → Int32) (v4 v5 : Value), f1 b = plV (mP g (ni B) (nb B) b s) → (∀ b', b' < b → f1 b' = plV (mP g (ni B) (nb B) b' (mtS g (ni B) (nb B) b'))) →
          Ev l X (d + 1) 25 96 [.ref 267, .int (nI (nb B)), .int (nI s), .int (nI b), v4, v5] [] 402 402 402 ρ (sI σ 303 f1) (fun v ρ' σ' => v = none ∧ ρ' = ρ ∧ ∃ f, σ' = sI σ 303 f ∧ ∀ b, b < nb B → f b = plV (mP g (ni B) (nb B) b (mtS g (ni B) (nb B) b))) := by
        intro f1 v4 v5 hf1 hf2
        have hnew : ∀ b', b' < b + 1 → f1 b' = plV (mP g (ni B) (nb B) b' (mtS g (ni B) (nb B) b')) := fun b' hb' => by
          by_cases hq : b' = b
          · subst hq; rw [hf1, hse]
          · exact hf2 b' (by omega)
        have hms : mtS g (ni B) (nb B) (b + 1) = tkS s (mP g (ni B) (nb B) b s) := by
          show tkS (mtS g (ni B) (nb B) b) (mP g (ni B) (nb B) b (mtS g (ni B) (nb B) b)) = _
          rw [hse]
        cases hp : mP g (ni B) (nb B) b s with
        | none =>
          rw [hp] at hms hf1
          refine Ev_iload rfl rfl ?_
          refine Ev_aload rfl rfl rfl ?_
          refine Ev_getR rfl (by first | rfl | assumption) (hρ _ _ _ rfl) ?_
          refine Ev_iload rfl rfl ?_
          refine Ev_iald rfl (by first | rfl | assumption) (vp_in_nI (n := b) (show b < 6 by omega) (by decide)) ?_
          refine Ev_norm (by rw [nI_clamp (by omega), sR_0]; exact hf1 : _ = (-1 : Int32)) ?_
          refine Ev_const rfl ?_
          refine Ev_icmp_ne rfl (fun h104 => absurd rfl h104) (fun h104 => ?_)
          refine Ev_const rfl ?_
          refine Ev_goto rfl ?_
          refine Ev_ior rfl ?_
          refine Ev_norm (show _ = nI s from (nI_or s 0).trans (by rw [Nat.or_zero])) ?_
          refine Ev_istore rfl ?_
          refine Ev_iincE rfl rfl (nI_1 b) ?_
          refine Ev_goto rfl ?_
          have := ih (b + 1) f1 v4 v5 (by omega) hnew
          rw [hms] at this
          exact this
        | some i =>
          have hi := mP_lt hp
          rw [hp] at hms hf1
          refine Ev_iload rfl rfl ?_
          refine Ev_aload rfl rfl rfl ?_
          refine Ev_getR rfl (by first | rfl | assumption) (hρ _ _ _ rfl) ?_
          refine Ev_iload rfl rfl ?_
          refine Ev_iald rfl (by first | rfl | assumption) (vp_in_nI (n := b) (show b < 6 by omega) (by decide)) ?_
          refine Ev_norm (by rw [nI_clamp (by omega), sR_0]; exact hf1 : _ = nI i) ?_
          refine Ev_const rfl ?_
          refine Ev_icmp_ne rfl (fun h104 => ?_) (fun h104 => absurd (nI_m1 (n := i) (by omega)) h104)
          refine Ev_const rfl ?_
          refine Ev_aload rfl rfl rfl ?_
          refine Ev_getR rfl (by first | rfl | assumption) (hρ _ _ _ rfl) ?_
          refine Ev_iload rfl rfl ?_
          refine Ev_iald rfl (by first | rfl | assumption) (vp_in_nI (n := b) (show b < 6 by omega) (by decide)) ?_
          refine Ev_norm (by rw [nI_clamp (by omega), sR_0]; exact hf1 : _ = nI i) ?_
          refine Ev_ishl rfl ?_
          refine Ev_norm (shl_1 i (by omega)) ?_
          refine Ev_ior rfl ?_
          refine Ev_norm (nI_or s (2 ^ i)) ?_
          refine Ev_istore rfl ?_
          refine Ev_iincE rfl rfl (nI_1 b) ?_
          refine Ev_goto rfl ?_
          have := ih (b + 1) f1 v4 v5 (by omega) hnew
          rw [hms] at this
          exact this
      -- the search of the first
      have sea : ∀ (m k : Nat) (f1 : Nat → Int32), k + m = ni B → mB g (ni B) (nb B) (b + 1) s < mB g (ni B) (nb B) b s → f1 b = -1 → (∀ b', b' < b → f1 b' = plV (mP g (ni B) (nb B) b' (mtS g (ni B) (nb B) b'))) → mF (g b) (mB g (ni B) (nb B) (b + 1)) s (mB g (ni B) (nb B) b s) m k = mP g (ni B) (nb B) b s →
          Ev l X (d + 1) 25 44 [.ref 267, .int (nI (nb B)), .int (nI s), .int (nI b), .int (nI (mB g (ni B) (nb B) b s)), .int (nI k)] [] 402 402 402 ρ (sI σ 303 f1) (fun v ρ' σ' => v = none ∧ ρ' = ρ ∧ ∃ f, σ' = sI σ 303 f ∧ ∀ b, b < nb B → f b = plV (mP g (ni B) (nb B) b (mtS g (ni B) (nb B) b))) := by
        intro m2
        induction m2 with
        | zero =>
          intro k f1 hk hlt h1 h2 hm
          have hk : k = ni B := by omega
          subst hk
          refine Ev_iload rfl rfl ?_
          refine Ev_aload rfl rfl rfl ?_
          refine Ev_getR rfl (by first | rfl | assumption) (hρ _ _ _ rfl) ?_
          refine Ev_getR rfl (by first | rfl | assumption) hR.2.2.1 ?_
          refine Ev_getI rfl (by rcases hR.2.1 with rfl | rfl <;> rfl) ?_
          refine Ev_norm ((hR' f1).2.2.2.1.1) ?_
          refine Ev_icmp_ge rfl (fun h56 => ?_) (fun h56 => absurd (nI_le (Nat.le_refl _) (by omega)) h56)
          exact fin f1 _ _ (by rw [h1, ← hm]; rfl) h2
        | succ m2 ih2 =>
          intro k f1 hk hlt h1 h2 hm
          refine Ev_iload rfl rfl ?_
          refine Ev_aload rfl rfl rfl ?_
          refine Ev_getR rfl (by first | rfl | assumption) (hρ _ _ _ rfl) ?_
          refine Ev_getR rfl (by first | rfl | assumption) hR.2.2.1 ?_
          refine Ev_getI rfl (by rcases hR.2.1 with rfl | rfl <;> rfl) ?_
          refine Ev_norm ((hR' f1).2.2.2.1.1) ?_
          refine Ev_icmp_ge rfl (fun h56 => absurd h56 (nI_ge (by omega) (by omega))) (fun h56 => ?_)
          refine Ev_aload rfl rfl rfl ?_
          refine Ev_getR rfl (by first | rfl | assumption) (hρ _ _ _ rfl) ?_
          refine Ev_iload rfl rfl ?_
          refine Ev_iald rfl (by first | rfl | assumption) (vp_in_nI (n := b) (show b < 6 by omega) (by decide)) ?_
          refine Ev_norm (by rw [nI_clamp (by omega), sR_0]; exact h1 : _ = (-1 : Int32)) ?_
          refine Ev_const rfl ?_
          refine Ev_icmp_ne rfl (fun h66 => absurd rfl h66) (fun h66 => ?_)
          refine Ev_aload rfl rfl rfl ?_
          refine Ev_iload rfl rfl ?_
          refine Ev_iload rfl rfl ?_
          refine Ev_iload rfl rfl ?_
          refine Ev_callV rfl rfl rfl rfl rfl (same_n 402) (t_bestWith _ hρ (by omega) (by omega) hs (hG' f1 k (by omega)) (hg b) (hT2 f1) (hle (b + 1))) ?_
          rintro v74 ρ74 σ74 ⟨rfl, e74, g74⟩
          obtain rfl := e74.symm
          obtain rfl := g74.symm
          refine Ev_iload rfl rfl ?_
          refine Ev_icmp_ne rfl (fun h79 => ?_) (fun h79 => ?_)
          · refine Ev_iincE rfl rfl (nI_1 k) ?_
            refine Ev_goto rfl ?_
            have hz : ¬ mtW (g b) (mB g (ni B) (nb B) (b + 1)) s k = some (mB g (ni B) (nb B) b s) := fun z => h79 ((plV_eq (by omega) (fun v hv => mW_lt (hg b) (hle (b + 1)) hv)).mpr z)
            refine ih2 (k + 1) f1 (by omega) hlt h1 h2 ?_
            rw [← hm]
            show _ = (if _ then _ else _)
            rw [if_neg hz]
          · refine Ev_aload rfl rfl rfl ?_
            refine Ev_getR rfl (by first | rfl | assumption) (hρ _ _ _ rfl) ?_
            refine Ev_iload rfl rfl ?_
            refine Ev_iload rfl rfl ?_
            refine Ev_iast rfl (by first | rfl | assumption) (vp_in_nI (n := b) (show b < 6 by omega) (by decide)) ?_
            rw [nI_clamp (show b < 2 ^ 31 by omega), sI_sI, sR_0]
            refine Ev_iincE rfl rfl (nI_1 k) ?_
            refine Ev_goto rfl ?_
            have hz : mtW (g b) (mB g (ni B) (nb B) (b + 1)) s k = some (mB g (ni B) (nb B) b s) := (plV_eq (by omega) (fun v hv => mW_lt (hg b) (hle (b + 1)) hv)).mp (Decidable.not_not.mp h79)
            have hpk : mP g (ni B) (nb B) b s = some k := by
              rw [← hm]
              show (if _ then _ else _) = _
              rw [if_pos hz]
            have hend : ∀ v5 : Value, Ev l X (d + 1) 25 96 [.ref 267, .int (nI (nb B)), .int (nI s), .int (nI b), .int (nI (mB g (ni B) (nb B) b s)), v5] [] 402 402 402 ρ (sI σ 303 (upd f1 b (nI k))) (fun v ρ' σ' => v = none ∧ ρ' = ρ ∧ ∃ f, σ' = sI σ 303 f ∧ ∀ b, b < nb B → f b = plV (mP g (ni B) (nb B) b (mtS g (ni B) (nb B) b))) := fun v5 => fin _ _ _ (by rw [pk_us, hpk]; rfl) (fun b' hb' => by rw [pk_un (by omega)]; exact h2 b' hb')
            by_cases hl : k + 1 < ni B
            · refine Ev_iload rfl rfl ?_
              refine Ev_aload rfl rfl rfl ?_
              refine Ev_getR rfl (by first | rfl | assumption) (hρ _ _ _ rfl) ?_
              refine Ev_getR rfl (by first | rfl | assumption) hR.2.2.1 ?_
              refine Ev_getI rfl (by rcases hR.2.1 with rfl | rfl <;> rfl) ?_
              refine Ev_norm ((hR' _).2.2.2.1.1) ?_
              refine Ev_icmp_ge rfl (fun h56 => absurd h56 (nI_ge (by omega) (by omega))) (fun h56 => ?_)
              refine Ev_aload rfl rfl rfl ?_
              refine Ev_getR rfl (by first | rfl | assumption) (hρ _ _ _ rfl) ?_
              refine Ev_iload rfl rfl ?_
              refine Ev_iald rfl (by first | rfl | assumption) (vp_in_nI (n := b) (show b < 6 by omega) (by decide)) ?_
              refine Ev_norm (by rw [nI_clamp (by omega), sR_0, pk_us] : _ = nI k) ?_
              refine Ev_const rfl ?_
              refine Ev_icmp_ne rfl (fun h66 => ?_) (fun h66 => absurd (nI_m1 (n := k) (by omega)) h66)
              exact hend _
            · refine Ev_iload rfl rfl ?_
              refine Ev_aload rfl rfl rfl ?_
              refine Ev_getR rfl (by first | rfl | assumption) (hρ _ _ _ rfl) ?_
              refine Ev_getR rfl (by first | rfl | assumption) hR.2.2.1 ?_
              refine Ev_getI rfl (by rcases hR.2.1 with rfl | rfl <;> rfl) ?_
              refine Ev_norm ((hR' _).2.2.2.1.1) ?_
              refine Ev_icmp_ge rfl (fun h56 => ?_) (fun h56 => absurd (nI_le (by omega) (by omega)) h56)
              exact hend _
      have hup : ∀ b', b' < b → upd f b (-1) b' = plV (mP g (ni B) (nb B) b' (mtS g (ni B) (nb B) b')) := fun b' hb' => by rw [pk_un (by omega)]; exact hf b' hb'
      refine Ev_iload rfl rfl ?_
      refine Ev_iload rfl rfl ?_
      refine Ev_icmp_ge rfl (fun h6 => absurd h6 (nI_ge (by omega) (by omega))) (fun h6 => ?_)
      refine Ev_aload rfl rfl rfl ?_
      refine Ev_getR rfl (by first | rfl | assumption) (hρ _ _ _ rfl) ?_
      refine Ev_iload rfl rfl ?_
      refine Ev_const rfl ?_
      refine Ev_iast rfl (by first | rfl | assumption) (vp_in_nI (n := b) (show b < 6 by omega) (by decide)) ?_
      rw [nI_clamp (show b < 2 ^ 31 by omega), sI_sI, sR_0]
      refine Ev_aload rfl rfl rfl ?_
      refine Ev_getR rfl (by first | rfl | assumption) (hρ _ _ _ rfl) ?_
      refine Ev_iload rfl rfl ?_
      refine Ev_aald (t := 4) rfl (Or.inl rfl) (by first | rfl | assumption) (vp_in_nI (n := b) (show b < 7 by omega) (by decide)) (by rw [nI_clamp (by omega)]; exact rf295 hρ (by omega) : _ = some (296 + b)) ?_
      refine Ev_iload rfl rfl ?_
      refine Ev_iald rfl ((rowB (show b < 7 by omega)).1) (by rw [(rowB (show b < 7 by omega)).2]; exact vp_in_nI (n := s) hs (by decide)) ?_
      refine Ev_norm (by rw [nI_clamp (by omega)]; exact hT1 _ s hs : _ = nI (mB g (ni B) (nb B) b s)) ?_
      refine Ev_istore rfl ?_
      refine Ev_aload rfl rfl rfl ?_
      refine Ev_getR rfl (by first | rfl | assumption) (hρ _ _ _ rfl) ?_
      refine Ev_iload rfl rfl ?_
      refine Ev_const rfl ?_
      refine Ev_iadd rfl ?_
      refine Ev_norm (nI_1 b) ?_
      refine Ev_aald (t := 4) rfl (Or.inl rfl) (by first | rfl | assumption) (vp_in_nI (n := b + 1) (show b + 1 < 7 by omega) (by decide)) (by rw [nI_clamp (by omega)]; exact rf295 hρ (by omega) : _ = some (296 + (b + 1))) ?_
      refine Ev_iload rfl rfl ?_
      refine Ev_iald rfl ((rowB (show b + 1 < 7 by omega)).1) (by rw [(rowB (show b + 1 < 7 by omega)).2]; exact vp_in_nI (n := s) hs (by decide)) ?_
      refine Ev_norm (by rw [nI_clamp (by omega)]; exact hT2 _ s hs : _ = nI (mB g (ni B) (nb B) (b + 1) s)) ?_
      refine Ev_iload rfl rfl ?_
      refine Ev_icmp_ge rfl (fun h38 => ?_) (fun h38 => ?_)
      · have hge : ¬ mB g (ni B) (nb B) (b + 1) s < mB g (ni B) (nb B) b s := fun z => absurd ((nI_leI (by omega) (by omega)).mp h38) (by omega)
        have hp : mP g (ni B) (nb B) b s = none := by unfold mP; rw [if_neg hge]
        have hms : mtS g (ni B) (nb B) (b + 1) = s := by
          show tkS (mtS g (ni B) (nb B) b) (mP g (ni B) (nb B) b (mtS g (ni B) (nb B) b)) = _
          rw [hse, hp]; rfl
        refine Ev_iincE rfl rfl (nI_1 b) ?_
        refine Ev_goto rfl ?_
        have := ih (b + 1) (upd f b (-1)) (.int (nI (mB g (ni B) (nb B) b s))) w5 (by omega) (fun b' hb' => by
          by_cases hq : b' = b
          · subst hq; rw [pk_us, hse, hp]; rfl
          · exact hup b' (by omega))
        rw [hms] at this
        exact this
      · refine Ev_const rfl ?_
        refine Ev_istore rfl ?_
        have hlt : mB g (ni B) (nb B) (b + 1) s < mB g (ni B) (nb B) b s := Decidable.byContradiction fun z => h38 (nI_le (by omega) (by omega))
        exact sea (ni B) 0 _ (by omega) hlt pk_us hup (by unfold mP; rw [if_pos hlt])
  refine T_of rfl ?_
  refine Ev_const rfl ?_
  refine Ev_istore rfl ?_
  refine Ev_const rfl ?_
  refine Ev_istore rfl ?_
  have := key (nb B) 0 (σ.1 303) (.float 0) (.float 0) (by omega) (fun b' hb' => absurd hb' (Nat.not_lt_zero _))
  rw [show sI σ 303 (σ.1 303) = σ from sI_self σ 303] at this
  exact this
end S84
