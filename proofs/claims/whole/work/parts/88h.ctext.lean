/-! A text read: where the class stands in it, how it fails. -/
def TxW (U : Tx) : Prop := U.1 ≤ 1600 ∧ ∀ j, U.2 j < 256
/-- the words as the class has them -/
def wL : List (List Nat) := ownW ++ [[102, 105, 114, 115, 116], [108, 97, 115, 116], [111, 102, 116, 101, 110], [116, 111, 116, 97, 108], [109, 111, 115, 116], [108, 101, 97, 115, 116]]
def wfd (w : List Nat) : List (List Nat) → Nat → Nat
  | [], _ => 258
  | v :: r, k => if w = v then k else wfd w r (k + 1)
/-- a word's number -/
def wcd (w : List Nat) : Nat := wfd w wL 259
/-- what stands at a place: its number, its length, what touches what is behind it -/
def tkc (U : Tx) (a : Nat) : Nat := bif ltB (U.2 a) then wcd (wrd U a) else bif dgB (U.2 a) then 257 else U.2 a
def tkl (U : Tx) (a : Nat) : Nat := bif ltB (U.2 a) then (wrd U a).length else bif dgB (U.2 a) then (dgs U a).length else 1
def tkt (U : Tx) (a : Nat) : Nat := bif ltB (U.2 a) then 1 else bif dgB (U.2 a) then 2 else 0
/-- the number of what stands here -/
def hcd (U : Tx) : Rdg → Int32
  | .inl _ => -1
  | .inr p => if U.1 ≤ skp U p.1 then -1 else bif cfl U (skp U p.1) (tcN U p.1 p.2) then 256 else nI (tkc U (skp U p.1))
/-- what is touched is what stands ahead -/
def cns (U : Tx) (p : Nat × Nat) : Prop := Nat.beq p.2 1 = (Nat.blt 0 p.1 && ltB (U.2 (p.1 - 1))) ∧ Nat.beq p.2 2 = (Nat.blt 0 p.1 && dgB (U.2 (p.1 - 1)))
/-- the text's bytes -/
def CBy (σ : St) (U : Tx) : Prop := σ.1 316 1 = nI U.1 ∧ ∀ j, j < U.1 → σ.1 1 j = sb (U.2 j)
def CRe (σ : St) (U : Tx) : Rdg → Prop
  | .inl e => σ.1 316 6 = nI e.1 ∧ σ.1 316 7 = nI e.2 ∧ (0 < e.1 ∧ e.1 < 10) ∧ σ.1 316 2 = -1
  | .inr p => p.1 ≤ U.1 ∧ cns U p ∧ (σ.1 316 6 = 0 ∧ σ.1 316 7 = -1) ∧ σ.1 316 3 = nI (skp U p.1) ∧ σ.1 316 2 = hcd U (.inr p) ∧ (skp U p.1 < U.1 → σ.1 316 4 = nI (skp U p.1 + tkl U (skp U p.1)))
/-- the class's text, as far as it is read -/
def CTe (σ : St) (U : Tx) (s : Rdg) : Prop := CBy σ U ∧ CRe σ U s
/-- the same; or a look would blame what stands here -/
def CTt (σ : St) (U : Tx) (s : Rdg) : Prop := ∃ s0, CTe σ U s0 ∧ (s = s0 ∨ s = lkS U s0)
def cTt (k j : Nat) : Bool := Nat.beq k 316 && !(Nat.beq j 1 || Nat.beq j 5)
theorem cTt_f {k j : Nat} (h : k ≠ 316) : cTt k j = false := by unfold cTt; rw [nbeq h]; rfl
def rpos : Rdg → Nat
  | .inl _ => 0
  | .inr p => p.1
theorem flA_P (w k : Nat) (s : Rdg) : flA w k s = flP w (rpos s + k) s := by cases s <;> rfl
def ltI (x : Int32) : Bool := decide (97 ≤ x.toInt ∧ x.toInt ≤ 122)
def dgI (x : Int32) : Bool := decide (48 ≤ x.toInt ∧ x.toInt ≤ 57)
theorem ltI_sb : ∀ v, v < 256 → ltI (sb v) = ltB v := by decide +kernel
theorem dgI_sb : ∀ v, v < 256 → dgI (sb v) = dgB v := by decide +kernel
theorem ltI_n : ∀ v, v < 256 → ltI (nI v) = ltB v := by decide +kernel
theorem dgI_n : ∀ v, v < 256 → dgI (nI v) = dgB v := by decide +kernel
theorem sb_10 : ∀ v, v < 256 → (sb v = 10 ↔ v = 10) := by decide +kernel
theorem sb_32 : ∀ v, v < 256 → (sb v = 32 ↔ v = 32) := by decide +kernel
theorem lt_dg : ∀ v, v < 256 → ltB v = true → dgB v = false := by decide +kernel
theorem bl_ld : ∀ v, v < 256 → v = 10 ∨ v = 32 → ltB v = false ∧ dgB v = false := by decide +kernel
theorem bI_d {b : Bool} {p : Prop} [Decidable p] (h : b = decide p) : (¬ bI b = 0) ↔ p := by
  subst h
  rw [bI_0]
  exact Decidable.not_not
theorem lk_r {U : Tx} (p : Nat × Nat) : (U.1 ≤ skp U p.1 → lkS U (.inr p) = .inr (skp U p.1, tcN U p.1 p.2) ∧ lkC U (.inr p) = none) ∧
    (skp U p.1 < U.1 → cfl U (skp U p.1) (tcN U p.1 p.2) = true → lkS U (.inr p) = .inl (1, skp U p.1) ∧ lkC U (.inr p) = none) ∧
    (skp U p.1 < U.1 → cfl U (skp U p.1) (tcN U p.1 p.2) = false → lkS U (.inr p) = .inr (skp U p.1, tcN U p.1 p.2) ∧ lkC U (.inr p) = some (U.2 (skp U p.1))) := by
  unfold lkS lkC
  refine ⟨fun h => ⟨if_pos h, if_pos h⟩, fun h hc => ?_, fun h hc => ?_⟩
  · show (if _ then _ else _) = _ ∧ (if _ then _ else _) = _
    rw [if_neg (by omega), if_neg (by omega), hc]
    exact ⟨rfl, rfl⟩
  · show (if _ then _ else _) = _ ∧ (if _ then _ else _) = _
    rw [if_neg (by omega), if_neg (by omega), hc]
    exact ⟨rfl, rfl⟩
theorem lkV_eq {o : Option Nat} {c : Nat} (ho : ∀ x, o = some x → x < 256) (hc : c < 256) : lkV o = nI c ↔ o = some c := by
  cases o with
  | none => exact ⟨fun z => absurd z.symm (nI_m1 (by omega)), fun z => by cases z⟩
  | some x =>
    have := ho x rfl
    show nI x = nI c ↔ _
    rw [nI_eq (by omega) (by omega)]
    exact ⟨fun z => by rw [z], fun z => Option.some.inj z⟩
theorem lkC_256 {U : Tx} {s : Rdg} (hT : TxW U) : ∀ x, lkC U s = some x → x < 256 := fun x hx => by
  obtain ⟨a, tc, _, _, h, _⟩ := lk_some hx
  rw [← h]; exact hT.2 a
/-! a word's number -/
theorem wfd_r (w : List Nat) : ∀ (r : List (List Nat)) (k : Nat), (wfd w r k = 258 ∧ ¬ w ∈ r) ∨ ∃ j, j < r.length ∧ wfd w r k = k + j ∧ r.getD j [] = w := by
  intro r
  induction r with
  | nil => intro k; exact Or.inl ⟨rfl, fun z => by cases z⟩
  | cons v r ih =>
    intro k
    show ((if w = v then k else wfd w r (k + 1)) = 258 ∧ _) ∨ ∃ j, _ ∧ (if w = v then k else wfd w r (k + 1)) = k + j ∧ _
    by_cases h : w = v
    · rw [if_pos h]
      exact Or.inr ⟨0, by rw [List.length_cons]; omega, rfl, h.symm⟩
    · rw [if_neg h]
      rcases ih (k + 1) with ⟨h1, h2⟩ | ⟨j, h1, h2, h3⟩
      · exact Or.inl ⟨h1, fun z => (List.mem_cons.mp z).elim h h2⟩
      · exact Or.inr ⟨j + 1, by rw [List.length_cons]; omega, by rw [h2]; omega, h3⟩
theorem wL_len : wL.length = 33 := by decide
theorem wL_inj : ∀ i, i < 33 → ∀ j, j < 33 → wL.getD i [] = wL.getD j [] → i = j := by decide +kernel
theorem wL_own : ∀ j, j < 33 → (wL.getD j [] ∈ ownW ↔ j < 27) := by decide +kernel
theorem wL_ne : ∀ j, j < 33 → wL.getD j [] ≠ [] ∧ ∀ i, i < (wL.getD j []).length → ltB ((wL.getD j []).getD i 0) = true := by decide +kernel
theorem own_L : ∀ w, w ∈ ownW → w ∈ wL := fun w h => List.mem_append_left _ h
theorem wcd_r (w : List Nat) : (wcd w = 258 ∧ ¬ w ∈ wL) ∨ ∃ j, j < 33 ∧ wcd w = 259 + j ∧ wL.getD j [] = w := by
  rcases wfd_r w wL 259 with h | ⟨j, h1, h2, h3⟩
  · exact Or.inl h
  · exact Or.inr ⟨j, by rw [wL_len] at h1; exact h1, h2, h3⟩
theorem wL_mem {i : Nat} (hi : i < 33) : wL.getD i [] ∈ wL := by
  rw [List.getD_eq_getElem?_getD, List.getElem?_eq_getElem (by rw [wL_len]; exact hi)]
  exact List.getElem_mem _
theorem wcd_i {w : List Nat} {i : Nat} (hi : i < 33) : wcd w = 259 + i ↔ w = wL.getD i [] := by
  rcases wcd_r w with ⟨h1, h2⟩ | ⟨j, h1, h2, h3⟩
  · exact ⟨fun z => by omega, fun z => absurd (by rw [z]; exact wL_mem hi) h2⟩
  · constructor
    · intro z; rw [show i = j by omega]; exact h3.symm
    · intro z; rw [h2, wL_inj j h1 i hi (h3.trans z)]
theorem wcd_lt (w : List Nat) : 258 ≤ wcd w ∧ wcd w < 292 := by
  rcases wcd_r w with ⟨h1, h2⟩ | ⟨j, h1, h2, h3⟩ <;> omega
theorem wcd_own (w : List Nat) : (wcd w = 258 ∨ 286 ≤ wcd w) ↔ ¬ w ∈ ownW := by
  rcases wcd_r w with ⟨h1, h2⟩ | ⟨j, h1, h2, h3⟩
  · exact ⟨fun _ z => h2 (own_L w z), fun _ => Or.inl h1⟩
  · have h4 := wL_own j h1
    rw [h3] at h4
    rw [h4]
    omega
/-! what stands behind -/
theorem skp_pv {T : Tx} : ∀ (m a : Nat), T.1 - a = m → skp T a = a ∨ (a < skp T a ∧ (T.2 (skp T a - 1) = 10 ∨ T.2 (skp T a - 1) = 32)) := by
  intro m
  induction m with
  | zero => intro a h; exact Or.inl (skp_e (by omega))
  | succ m ih =>
    intro a h
    by_cases hb : T.2 a = 10 ∨ T.2 a = 32
    · rw [skp_b (by omega) hb]
      have h2 := skp_up T (a + 1)
      rcases ih (a + 1) (by omega) with h1 | ⟨h1, h3⟩
      · exact Or.inr ⟨by omega, by rw [h1]; exact hb⟩
      · exact Or.inr ⟨by omega, h3⟩
    · exact Or.inl (skp_n (by omega) hb)
theorem cns_lk {U : Tx} {p : Nat × Nat} (hT : TxW U) (h : cns U p) : cns U (skp U p.1, tcN U p.1 p.2) := by
  unfold tcN
  rcases skp_pv _ p.1 rfl with h1 | ⟨h1, h2⟩
  · rw [if_pos h1, h1]; exact h
  · rw [if_neg (by omega)]
    obtain ⟨h3, h4⟩ := bl_ld _ (hT.2 _) h2
    refine ⟨?_, ?_⟩
    · show Nat.beq 0 1 = (Nat.blt 0 (skp U p.1) && ltB (U.2 (skp U p.1 - 1)))
      rw [h3, Bool.and_false]; rfl
    · show Nat.beq 0 2 = (Nat.blt 0 (skp U p.1) && dgB (U.2 (skp U p.1 - 1)))
      rw [h4, Bool.and_false]; rfl
theorem hcd_lk (U : Tx) (p : Nat × Nat) : hcd U (.inr (skp U p.1, tcN U p.1 p.2)) = hcd U (.inr p) := by
  show (if U.1 ≤ skp U (skp U p.1) then (-1 : Int32) else bif cfl U (skp U (skp U p.1)) (tcN U (skp U p.1) (tcN U p.1 p.2)) then 256 else nI (tkc U (skp U (skp U p.1)))) = (if U.1 ≤ skp U p.1 then -1 else bif cfl U (skp U p.1) (tcN U p.1 p.2) then 256 else nI (tkc U (skp U p.1)))
  rw [skp_id, tcN_id]
theorem tk_end {U : Tx} {a : Nat} (hT : TxW U) (h : a < U.1) : a + tkl U a ≤ U.1 ∧ 0 < tkl U a ∧ cns U (a + tkl U a, tkt U a) := by
  have h256 := hT.2 a
  unfold tkl tkt
  cases hl : ltB (U.2 a) with
  | true =>
    obtain ⟨f1, f2, f3⟩ := wrd_end (T := U) _ a rfl
    have hp : 0 < (wrd U a).length := List.length_pos_iff.mpr (wrd_ne.mpr ⟨h, hl⟩)
    have g := (f3 ((wrd U a).length - 1) (by omega)).2
    rw [show a + ((wrd U a).length - 1) = a + (wrd U a).length - 1 by omega] at g
    have g2 := lt_dg _ (hT.2 _) g
    refine ⟨f1 (by omega), hp, ?_, ?_⟩
    · show true = (Nat.blt 0 (a + (wrd U a).length) && ltB (U.2 (a + (wrd U a).length - 1)))
      rw [g, show Nat.blt 0 (a + (wrd U a).length) = true from Nat.blt_eq.mpr (by omega)]; rfl
    · show false = (Nat.blt 0 (a + (wrd U a).length) && dgB (U.2 (a + (wrd U a).length - 1)))
      rw [g2, Bool.and_false]
  | false =>
    cases hd : dgB (U.2 a) with
    | true =>
      obtain ⟨f1, f2, f3⟩ := dgs_end (T := U) _ a rfl
      have hp : 0 < (dgs U a).length := List.length_pos_iff.mpr (by rw [dgs_s h hd]; exact List.cons_ne_nil _ _)
      have g := (f3 ((dgs U a).length - 1) (by omega)).2
      rw [show a + ((dgs U a).length - 1) = a + (dgs U a).length - 1 by omega] at g
      have g2 : ltB (U.2 (a + (dgs U a).length - 1)) = false := by
        cases hz : ltB (U.2 (a + (dgs U a).length - 1)) with
        | false => rfl
        | true => have := lt_dg _ (hT.2 _) hz; rw [g] at this; cases this
      refine ⟨f1 (by omega), hp, ?_, ?_⟩
      · show false = (Nat.blt 0 (a + (dgs U a).length) && ltB (U.2 (a + (dgs U a).length - 1)))
        rw [g2, Bool.and_false]
      · show true = (Nat.blt 0 (a + (dgs U a).length) && dgB (U.2 (a + (dgs U a).length - 1)))
        rw [g, show Nat.blt 0 (a + (dgs U a).length) = true from Nat.blt_eq.mpr (by omega)]; rfl
    | false =>
      refine ⟨by show a + 1 ≤ U.1; omega, Nat.zero_lt_one, ?_, ?_⟩
      · show false = (Nat.blt 0 (a + 1) && ltB (U.2 (a + 1 - 1)))
        rw [Nat.add_sub_cancel, hl, Bool.and_false]
      · show false = (Nat.blt 0 (a + 1) && dgB (U.2 (a + 1 - 1)))
        rw [Nat.add_sub_cancel, hd, Bool.and_false]
theorem tkc_r {U : Tx} (hT : TxW U) (a : Nat) : (ltB (U.2 a) = true ∧ tkc U a = wcd (wrd U a)) ∨ (ltB (U.2 a) = false ∧ dgB (U.2 a) = true ∧ tkc U a = 257) ∨ (ltB (U.2 a) = false ∧ dgB (U.2 a) = false ∧ tkc U a = U.2 a ∧ U.2 a < 256) := by
  unfold tkc
  cases hl : ltB (U.2 a) with
  | true => exact Or.inl ⟨rfl, rfl⟩
  | false =>
    cases hd : dgB (U.2 a) with
    | true => exact Or.inr (Or.inl ⟨rfl, rfl, rfl⟩)
    | false => exact Or.inr (Or.inr ⟨rfl, rfl, rfl, hT.2 a⟩)
theorem hcd_c {U : Tx} (s : Rdg) : (lkC U s = none ∧ (hcd U s = -1 ∨ hcd U s = 256)) ∨ ∃ a tc, lkS U s = .inr (a, tc) ∧ lkC U s = some (U.2 a) ∧ a < U.1 ∧ hcd U s = nI (tkc U a) := by
  cases s with
  | inl e => exact Or.inl ⟨rfl, Or.inl rfl⟩
  | inr p =>
    obtain ⟨r1, r2, r3⟩ := lk_r (U := U) p
    by_cases h : U.1 ≤ skp U p.1
    · exact Or.inl ⟨(r1 h).2, Or.inl (if_pos h)⟩
    · cases hc : cfl U (skp U p.1) (tcN U p.1 p.2) with
      | true => exact Or.inl ⟨(r2 (by omega) hc).2, Or.inr (by unfold hcd; show (if _ then _ else _) = _; rw [if_neg h, hc]; rfl)⟩
      | false => exact Or.inr ⟨_, _, (r3 (by omega) hc).1, (r3 (by omega) hc).2, by omega, by unfold hcd; show (if _ then _ else _) = _; rw [if_neg h, hc]; rfl⟩
theorem wAt_of {U : Tx} {s : Rdg} {a tc c : Nat} (h1 : lkC U s = some c) (h2 : lkS U s = .inr (a, tc)) : wAt U s = wrd U a := by
  unfold wAt
  rw [h1, h2]
theorem wAt_none {U : Tx} {s : Rdg} (h1 : lkC U s = none) : wAt U s = [] := by
  unfold wAt
  rw [h1]
theorem nI_256 {n m : Nat} (hn : n < 2 ^ 31) (hm : m < 2 ^ 31) (h : n ≠ m) : ¬ nI n = nI m := fun z => h ((nI_eq hn hm).mp z)
theorem hcd_w {U : Tx} {s : Rdg} {i : Nat} (hT : TxW U) (hi : i < 33) : hcd U s = nI (259 + i) ↔ wAt U s = wL.getD i [] := by
  have hne := (wL_ne i hi).1
  rcases hcd_c (U := U) s with ⟨h1, h2⟩ | ⟨a, tc, h1, h2, h3, h4⟩
  · rw [wAt_none h1]
    refine ⟨fun z => ?_, fun z => absurd z.symm hne⟩
    rcases h2 with h2 | h2
    · rw [h2] at z; exact absurd z.symm (nI_m1 (by omega))
    · rw [h2] at z; exact absurd z (nI_256 (n := 256) (by decide) (by omega) (by omega))
  · rw [wAt_of h2 h1, h4]
    rcases tkc_r hT a with ⟨g1, g2⟩ | ⟨g1, g2, g3⟩ | ⟨g1, g2, g3, g4⟩
    · have := wcd_lt (wrd U a)
      rw [g2, nI_eq (by omega) (by omega)]
      exact wcd_i hi
    · rw [g3, wrd_e (Or.inr g1), nI_eq (by decide) (by omega)]
      exact ⟨fun z => by omega, fun z => absurd z.symm hne⟩
    · rw [g3, wrd_e (Or.inr g1), nI_eq (by omega) (by omega)]
      exact ⟨fun z => by omega, fun z => absurd z.symm hne⟩
theorem hcd_s {U : Tx} {s : Rdg} {c : Nat} (hT : TxW U) (hc : c < 256 ∧ ltB c = false ∧ dgB c = false) : hcd U s = nI c ↔ lkC U s = some c := by
  rcases hcd_c (U := U) s with ⟨h1, h2⟩ | ⟨a, tc, h1, h2, h3, h4⟩
  · rw [h1]
    refine ⟨fun z => ?_, fun z => by cases z⟩
    rcases h2 with h2 | h2
    · rw [h2] at z; exact absurd z.symm (nI_m1 (by omega))
    · rw [h2] at z; exact absurd z (nI_256 (n := 256) (by decide) (by omega) (by omega))
  · rw [h2, h4]
    rcases tkc_r hT a with ⟨g1, g2⟩ | ⟨g1, g2, g3⟩ | ⟨g1, g2, g3, g4⟩
    · have := wcd_lt (wrd U a)
      rw [g2, nI_eq (by omega) (by omega)]
      exact ⟨fun z => by omega, fun z => by rw [Option.some.inj z] at g1; rw [g1] at hc; exact absurd hc.2.1 (by decide)⟩
    · rw [g3, nI_eq (by decide) (by omega)]
      exact ⟨fun z => by omega, fun z => by rw [Option.some.inj z] at g2; rw [g2] at hc; exact absurd hc.2.2 (by decide)⟩
    · rw [g3, nI_eq (by omega) (by omega)]
      exact ⟨fun z => by rw [z], fun z => Option.some.inj z⟩
theorem hcd_d {U : Tx} {s : Rdg} (hT : TxW U) : hcd U s = 257 ↔ dgI (lkV (lkC U s)) = true := by
  rcases hcd_c (U := U) s with ⟨h1, h2⟩ | ⟨a, tc, h1, h2, h3, h4⟩
  · rw [h1]
    refine ⟨fun z => ?_, fun z => absurd z (by decide)⟩
    rcases h2 with h2 | h2
    · rw [h2] at z; exact absurd z (by decide)
    · rw [h2] at z; exact absurd z (by decide)
  · rw [h2, h4]
    have e : dgI (lkV (some (U.2 a))) = dgB (U.2 a) := dgI_n _ (hT.2 a)
    rw [e]
    have e2 : (nI (tkc U a) = 257) = (nI (tkc U a) = nI 257) := rfl
    rw [e2]
    rcases tkc_r hT a with ⟨g1, g2⟩ | ⟨g1, g2, g3⟩ | ⟨g1, g2, g3, g4⟩
    · have := wcd_lt (wrd U a)
      rw [g2, nI_eq (by omega) (by decide), lt_dg _ (hT.2 a) g1]
      exact ⟨fun z => by omega, fun z => by cases z⟩
    · rw [g3, g2]
      exact ⟨fun _ => rfl, fun _ => rfl⟩
    · rw [g3, g2, nI_eq (by omega) (by decide)]
      exact ⟨fun z => by omega, fun z => by cases z⟩
theorem hcd_nm {U : Tx} {s : Rdg} (hT : TxW U) : (hcd U s = 258 ∨ 286 ≤ hcd U s) ↔ ¬ (wAt U s = [] ∨ wAt U s ∈ ownW) := by
  rcases hcd_c (U := U) s with ⟨h1, h2⟩ | ⟨a, tc, h1, h2, h3, h4⟩
  · rw [wAt_none h1]
    refine ⟨fun z => ?_, fun z => absurd (Or.inl rfl) z⟩
    rcases h2 with h2 | h2
    · rw [h2] at z; exact absurd z (by decide)
    · rw [h2] at z; exact absurd z (by decide)
  · rw [wAt_of h2 h1, h4]
    have e2 : (nI (tkc U a) = 258) = (nI (tkc U a) = nI 258) := rfl
    have e3 : (286 ≤ nI (tkc U a)) = (nI 286 ≤ nI (tkc U a)) := rfl
    rw [e2, e3]
    rcases tkc_r hT a with ⟨g1, g2⟩ | ⟨g1, g2, g3⟩ | ⟨g1, g2, g3, g4⟩
    · have := wcd_lt (wrd U a)
      rw [g2, nI_eq (by omega) (by decide), nI_leI (by decide) (by omega), wcd_own]
      exact ⟨fun z q => q.elim (wrd_ne.mpr ⟨h3, g1⟩) z, fun z q => z (Or.inr q)⟩
    · rw [g3, wrd_e (Or.inr g1)]
      exact ⟨fun z => absurd z (by decide), fun z => absurd (Or.inl rfl) z⟩
    · rw [g3, wrd_e (Or.inr g1), nI_eq (by omega) (by decide), nI_leI (by decide) (by omega)]
      exact ⟨fun z => by omega, fun z => absurd (Or.inl rfl) z⟩
/-! the class's text -/
theorem CTe.t {σ : St} {U : Tx} {s : Rdg} (H : CTe σ U s) : CTt σ U s := ⟨s, H, Or.inl rfl⟩
theorem CTt.lk {σ : St} {U : Tx} {s : Rdg} (H : CTt σ U s) : CTt σ U (lkS U s) := by
  obtain ⟨s0, h1, rfl | rfl⟩ := H
  · exact ⟨s, h1, Or.inr rfl⟩
  · exact ⟨s0, h1, Or.inr (lkS_id U s0).1⟩
theorem CTe.lk {σ : St} {U : Tx} {s : Rdg} {p : Nat × Nat} (hT : TxW U) (H : CTe σ U s) (h : lkS U s = .inr p) : CTe σ U (.inr p) := by
  cases s with
  | inl e => cases h
  | inr p0 =>
    obtain ⟨hB, h1, h2, h3, h4, h5, h6⟩ := H
    obtain ⟨r1, r2, r3⟩ := lk_r (U := U) p0
    have e : p = (skp U p0.1, tcN U p0.1 p0.2) := by
      by_cases hl : U.1 ≤ skp U p0.1
      · rw [(r1 hl).1] at h; exact (Sum.inr.inj h).symm
      · cases hc : cfl U (skp U p0.1) (tcN U p0.1 p0.2) with
        | true => rw [(r2 (by omega) hc).1] at h; cases h
        | false => rw [(r3 (by omega) hc).1] at h; exact (Sum.inr.inj h).symm
    subst e
    exact ⟨hB, skp_le h1, cns_lk hT h2, h3, by show _ = nI (skp U (skp U p0.1)); rw [skp_id]; exact h4, by rw [hcd_lk]; exact h5, fun z => by
      have z : skp U (skp U p0.1) < U.1 := z
      show _ = nI (skp U (skp U p0.1) + tkl U (skp U (skp U p0.1)))
      rw [skp_id] at z ⊢
      exact h6 z⟩
theorem CTt.ex {σ : St} {U : Tx} {s : Rdg} {p : Nat × Nat} (hT : TxW U) (H : CTt σ U s) (h : lkS U s = .inr p) : CTe σ U (.inr p) := by
  obtain ⟨s0, h1, rfl | rfl⟩ := H
  · exact h1.lk hT h
  · rw [(lkS_id U s0).1] at h; exact h1.lk hT h
theorem CTt.ok {σ : St} {U : Tx} {s : Rdg} (hT : TxW U) (H : CTt σ U s) (h : isOk s = true) : CTe σ U s := by
  obtain ⟨s0, h1, rfl | rfl⟩ := H
  · exact h1
  · cases hs : lkS U s0 with
    | inl e => rw [hs] at h; cases h
    | inr p => exact h1.lk hT hs
/-- what stands here, by its number -/
theorem CTt.here {σ : St} {U : Tx} {s : Rdg} (H : CTt σ U s) : ∃ s0, CTe σ U s0 ∧ lkC U s = lkC U s0 ∧ lkS U s = lkS U s0 ∧ wAt U s = wAt U s0 ∧ dAt U s = dAt U s0 ∧ σ.1 316 2 = hcd U s0 := by
  have key : ∀ s0, CTe σ U s0 → σ.1 316 2 = hcd U s0 := fun s0 h => by
    cases s0 with
    | inl e => exact h.2.2.2.2
    | inr p => exact h.2.2.2.2.2.1
  obtain ⟨s0, h1, rfl | rfl⟩ := H
  · exact ⟨s, h1, rfl, rfl, rfl, rfl, key _ h1⟩
  · have e := lkS_id U s0
    exact ⟨s0, h1, e.2, e.1, by unfold wAt; rw [e.1, e.2], by unfold dAt; rw [e.1, e.2], key _ h1⟩
theorem CTt.hw {σ : St} {U : Tx} {s : Rdg} {i : Nat} (hT : TxW U) (hi : i < 33) (H : CTt σ U s) : σ.1 316 2 = nI (259 + i) ↔ wAt U s = wL.getD i [] := by
  obtain ⟨s0, -, -, -, h4, -, h6⟩ := H.here
  rw [h6, h4]; exact hcd_w hT hi
theorem CTt.hs {σ : St} {U : Tx} {s : Rdg} {c : Nat} (hT : TxW U) (hc : c < 256 ∧ ltB c = false ∧ dgB c = false) (H : CTt σ U s) : σ.1 316 2 = nI c ↔ lkC U s = some c := by
  obtain ⟨s0, -, h2, -, -, -, h6⟩ := H.here
  rw [h6, h2]; exact hcd_s hT hc
theorem CTt.hd {σ : St} {U : Tx} {s : Rdg} (hT : TxW U) (H : CTt σ U s) : σ.1 316 2 = 257 ↔ dgI (lkV (lkC U s)) = true := by
  obtain ⟨s0, -, h2, -, -, -, h6⟩ := H.here
  rw [h6, h2]; exact hcd_d hT
theorem CTt.hn {σ : St} {U : Tx} {s : Rdg} (hT : TxW U) (H : CTt σ U s) : (σ.1 316 2 = 258 ∨ 286 ≤ σ.1 316 2) ↔ ¬ (wAt U s = [] ∨ wAt U s ∈ ownW) := by
  obtain ⟨s0, -, -, -, h4, -, h6⟩ := H.here
  rw [h6, h4]; exact hcd_nm hT
theorem CBy.cf {C : Nat → Nat → Bool} {σ σ' : St} {U : Tx} (H : CBy σ U) (hs : CF C σ σ') (h1 : C 316 1 = false) (h2 : ∀ j, C 1 j = false) : CBy σ' U := ⟨by rw [hs.1 _ _ h1]; exact H.1, fun j hj => by rw [hs.1 _ _ (h2 _)]; exact H.2 j hj⟩
section S88h
variable {l : Launch} {X : Cx} {ρ : Rf} {U : Tx}
theorem t_isLetter (d : Nat) {σ : St} (x : Int32) : T l X d 94 [.int x] 402 402 ρ σ (Rs (.int (bI (ltI x))) ρ σ) := by
  have e1 : (97 : Int32).toInt = 97 := rfl
  have e2 : (122 : Int32).toInt = 122 := rfl
  refine T_of rfl ?_
  refine Ev_iload rfl rfl ?_
  refine Ev_const rfl ?_
  refine Ev_icmp_lt rfl (fun h3 => ?_) (fun h3 => ?_)
  · refine Ev_const rfl ?_
    exact Ev_ireturn rfl rfl rfl rfl ⟨by unfold ltI; rw [decide_eq_false (by rw [Int32.lt_iff_toInt_lt] at h3; omega)]; rfl, rfl, rfl⟩
  · refine Ev_iload rfl rfl ?_
    refine Ev_const rfl ?_
    refine Ev_icmp_gt rfl (fun h9 => ?_) (fun h9 => ?_)
    · refine Ev_const rfl ?_
      exact Ev_ireturn rfl rfl rfl rfl ⟨by unfold ltI; rw [decide_eq_false (by rw [Int32.lt_iff_toInt_lt] at h9; omega)]; rfl, rfl, rfl⟩
    · refine Ev_const rfl ?_
      refine Ev_goto rfl ?_
      exact Ev_ireturn rfl rfl rfl rfl ⟨by unfold ltI; rw [decide_eq_true (by rw [Int32.lt_iff_toInt_lt] at h3 h9; omega)]; rfl, rfl, rfl⟩
theorem t_isDigit (d : Nat) {σ : St} (x : Int32) : T l X d 95 [.int x] 402 402 ρ σ (Rs (.int (bI (dgI x))) ρ σ) := by
  have e1 : (48 : Int32).toInt = 48 := rfl
  have e2 : (57 : Int32).toInt = 57 := rfl
  refine T_of rfl ?_
  refine Ev_iload rfl rfl ?_
  refine Ev_const rfl ?_
  refine Ev_icmp_lt rfl (fun h3 => ?_) (fun h3 => ?_)
  · refine Ev_const rfl ?_
    exact Ev_ireturn rfl rfl rfl rfl ⟨by unfold dgI; rw [decide_eq_false (by rw [Int32.lt_iff_toInt_lt] at h3; omega)]; rfl, rfl, rfl⟩
  · refine Ev_iload rfl rfl ?_
    refine Ev_const rfl ?_
    refine Ev_icmp_gt rfl (fun h9 => ?_) (fun h9 => ?_)
    · refine Ev_const rfl ?_
      exact Ev_ireturn rfl rfl rfl rfl ⟨by unfold dgI; rw [decide_eq_false (by rw [Int32.lt_iff_toInt_lt] at h9; omega)]; rfl, rfl, rfl⟩
    · refine Ev_const rfl ?_
      refine Ev_goto rfl ?_
      exact Ev_ireturn rfl rfl rfl rfl ⟨by unfold dgI; rw [decide_eq_true (by rw [Int32.lt_iff_toInt_lt] at h3 h9; omega)]; rfl, rfl, rfl⟩
theorem t_fail (d : Nat) {σ : St} {s : Rdg} {w k : Nat} {x : Int32} (H : CTe σ U s) (hw : 0 < w ∧ w < 10) (hx : ∀ p, s = .inr p → x = nI k) :
    T l X d 93 [.ref 316, .int (nI w), .int x] 402 402 ρ σ (fun v ρ' σ' => v = none ∧ ρ' = ρ ∧ CTe σ' U (flP w k s) ∧ CF cTt σ σ') := by
  cases s with
  | inl e =>
    have g5 := H.2.2.2.1
    refine T_of rfl ?_
    refine Ev_aload rfl rfl rfl ?_
    refine Ev_getI rfl (by first | rfl | assumption) ?_
    refine Ev_norm H.2.1 ?_
    refine Ev_if_ne rfl (fun h4 => ?_) (fun h4 => absurd (nI_ne0 g5.1 (by omega)) h4)
    exact Ev_return rfl rfl rfl ⟨rfl, rfl, H, CF.rf _ _⟩
  | inr p =>
    obtain ⟨⟨h1, h2⟩, h3, h4, ⟨h7, h8⟩, h5, h6⟩ := H
    have hx := hx p rfl
    subst hx
    refine T_of rfl ?_
    refine Ev_aload rfl rfl rfl ?_
    refine Ev_getI rfl (by first | rfl | assumption) ?_
    refine Ev_norm h7 ?_
    refine Ev_if_ne rfl (fun h4 => absurd rfl h4) (fun h4 => ?_)
    refine Ev_aload rfl rfl rfl ?_
    refine Ev_iload rfl rfl ?_
    refine Ev_putI rfl (by first | rfl | assumption) ⟨rfl, rfl⟩ rfl ?_
    refine Ev_aload rfl rfl rfl ?_
    refine Ev_iload rfl rfl ?_
    refine Ev_putI rfl (by first | rfl | assumption) ⟨rfl, rfl⟩ rfl ?_
    refine Ev_aload rfl rfl rfl ?_
    refine Ev_const rfl ?_
    refine Ev_putI rfl (by first | rfl | assumption) ⟨rfl, rfl⟩ rfl ?_
    exact Ev_return rfl rfl rfl ⟨rfl, rfl, ⟨⟨h1, h2⟩, rfl, rfl, hw, rfl⟩, ((CF.put _ _ rfl).tr (CF.put _ _ rfl)).tr (CF.put _ _ rfl)⟩
/-- what stands here is blamed -/
theorem t_failH (d : Nat) {σ : St} {s : Rdg} (hT : TxW U) (H : CTt σ U s) :
    T l X d 93 [.ref 316, .int 1, .int (σ.1 316 3)] 402 402 ρ σ (fun v ρ' σ' => v = none ∧ ρ' = ρ ∧ CTe σ' U (flA 1 0 (lkS U s)) ∧ CF cTt σ σ') := by
  obtain ⟨s0, h1, -, h3, -⟩ := H.here
  rw [h3]
  cases s0 with
  | inl e => exact t_fail d (w := 1) (k := 0) h1 (by decide) (fun p q => by cases q)
  | inr p =>
    have e : flA 1 0 (lkS U (.inr p)) = .inl (1, skp U p.1) := by
      obtain ⟨r1, r2, r3⟩ := lk_r (U := U) p
      by_cases hl : U.1 ≤ skp U p.1
      · rw [(r1 hl).1]; rfl
      · cases hc : cfl U (skp U p.1) (tcN U p.1 p.2) with
        | true => rw [(r2 (by omega) hc).1]; rfl
        | false => rw [(r3 (by omega) hc).1]; rfl
    rw [e]
    exact t_fail d (w := 1) (k := skp U p.1) h1 (by decide) (fun _ _ => h1.2.2.2.2.1)
end S88h
