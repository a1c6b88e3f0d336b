/-! The reference's readers. -/
def MNum (σ : St) (B : Bh) : Prop := ∀ q, q < 5 → σ.1 356 (5 + q) = nI (B.1 q)
def MTab (σ : St) (B : Bh) : Prop := (∀ i, i < ni B → σ.1 358 (8 + i) = nI (dep B i) ∧ σ.1 359 (8 + i) = nI (nee B i)) ∧ ∀ b, b < nb B → σ.1 360 (12 + 2 * b) = nI (lun B b) ∧ σ.1 360 (13 + 2 * b) = nI (wit B b)
def MStr (σ : St) (S : Str) : Prop := ∀ b i, b < 6 → i < 8 → σ.1 365 (1 + 8 * b + i) = nI (S b i)
/-- the wits in force -/
def MWit (σ : St) (B : Bh) (W : Nat → Nat) : Prop := ∀ b, b < nb B → (if nI b = σ.1 326 53 then σ.1 326 54 else σ.1 360 (13 + 2 * b)) = nI (W b)
theorem m1_to {n : Nat} (h : n < 2 ^ 31) : (nI n - 1).toInt = (n : Int) - 1 := by
  rw [Int32.toInt_sub, nI_toInt h]
  exact bm32 ⟨by have : (1 : Int32).toInt = 1 := rfl; omega, by have : (1 : Int32).toInt = 1 := rfl; omega⟩
theorem isIn_n {v : Int64} {n : Nat} (h : n < 2 ^ 31) : decide ((0 : Int64) ≤ v ∧ v ≤ (nI n - 1).toInt64) = decide (0 ≤ v.toInt ∧ v.toInt < (n : Int)) := by
  apply decide_eq_decide.mpr
  rw [Int64.le_iff_toInt_le, Int64.le_iff_toInt_le, l_of, m1_to h]
  have : (0 : Int64).toInt = 0 := rfl
  omega
section S26
variable {l : Launch} {X : Cx} {ρ : Rf} {σ : St} {B : Bh} {S : Str} {W : Nat → Nat}
theorem m_ideaMany (d : Nat) (hρ : RF ρ) (hN : MNum σ B) : T l X d 192 [.ref 326] 402 402 ρ σ (Rs (.int (nI (ni B))) ρ σ) := by
  refine T_of rfl ?_
  refine Ev_aload rfl rfl rfl ?_
  refine Ev_getR rfl (by first | rfl | assumption) (hρ _ _ _ rfl) ?_
  refine Ev_const rfl ?_
  refine Ev_iald rfl (by first | rfl | assumption) (vp_in_nI (n := 5) (by decide) (by decide)) ?_
  refine Ev_norm (hN 0 (by decide)) ?_
  exact Ev_ireturn rfl rfl rfl rfl ⟨rfl, rfl, rfl⟩
theorem m_batherMany (d : Nat) (hρ : RF ρ) (hN : MNum σ B) : T l X d 193 [.ref 326] 402 402 ρ σ (Rs (.int (nI (nb B))) ρ σ) := by
  refine T_of rfl ?_
  refine Ev_aload rfl rfl rfl ?_
  refine Ev_getR rfl (by first | rfl | assumption) (hρ _ _ _ rfl) ?_
  refine Ev_const rfl ?_
  refine Ev_iald rfl (by first | rfl | assumption) (vp_in_nI (n := 6) (by decide) (by decide)) ?_
  refine Ev_norm (hN 1 (by decide)) ?_
  exact Ev_ireturn rfl rfl rfl rfl ⟨rfl, rfl, rfl⟩
theorem m_planMany (d : Nat) (hρ : RF ρ) (hN : MNum σ B) : T l X d 194 [.ref 326] 402 402 ρ σ (Rs (.int (nI (np B))) ρ σ) := by
  refine T_of rfl ?_
  refine Ev_aload rfl rfl rfl ?_
  refine Ev_getR rfl (by first | rfl | assumption) (hρ _ _ _ rfl) ?_
  refine Ev_const rfl ?_
  refine Ev_iald rfl (by first | rfl | assumption) (vp_in_nI (n := 8) (by decide) (by decide)) ?_
  refine Ev_norm (hN 3 (by decide)) ?_
  exact Ev_ireturn rfl rfl rfl rfl ⟨rfl, rfl, rfl⟩
theorem m_isIdea (d : Nat) (hρ : RF ρ) (hN : MNum σ B) (hW : WfN B) (v : Int64) : T l X (d + 1) 195 [.ref 326, .long v] 402 402 ρ σ (Rs (.int (bI (decide (0 ≤ v.toInt ∧ v.toInt < (ni B : Int))))) ρ σ) := by
  refine T_of rfl ?_
  refine Ev_lload rfl rfl ?_
  refine Ev_constL rfl ?_
  refine Ev_aload rfl rfl rfl ?_
  refine Ev_callV rfl rfl rfl rfl rfl (same_n 402) (m_ideaMany _ hρ hN) ?_
  rintro v3 ρ3 σ3 ⟨rfl, e3, g3⟩
  obtain rfl := e3.symm
  obtain rfl := g3.symm
  refine Ev_const rfl ?_
  refine Ev_isub rfl ?_
  refine Ev_i2l rfl ?_
  refine Ev_callS rfl rfl rfl rfl (same_n 402) (m_isIn _ _ _ _) ?_
  rintro v9 ρ9 σ9 ⟨rfl, e9, g9⟩
  obtain rfl := e9.symm
  obtain rfl := g9.symm
  exact Ev_ireturn rfl rfl (narZ _) rfl ⟨by rw [isIn_n (by have := hW.1; omega)], rfl, rfl⟩
theorem m_isBather (d : Nat) (hρ : RF ρ) (hN : MNum σ B) (hW : WfN B) (x : Int32) : T l X (d + 1) 196 [.ref 326, .int x] 402 402 ρ σ (Rs (.int (bI (decide (0 ≤ x.toInt ∧ x.toInt < (nb B : Int))))) ρ σ) := by
  refine T_of rfl ?_
  refine Ev_iload rfl rfl ?_
  refine Ev_i2l rfl ?_
  refine Ev_constL rfl ?_
  refine Ev_aload rfl rfl rfl ?_
  refine Ev_callV rfl rfl rfl rfl rfl (same_n 402) (m_batherMany _ hρ hN) ?_
  rintro v4 ρ4 σ4 ⟨rfl, e4, g4⟩
  obtain rfl := e4.symm
  obtain rfl := g4.symm
  refine Ev_const rfl ?_
  refine Ev_isub rfl ?_
  refine Ev_i2l rfl ?_
  refine Ev_callS rfl rfl rfl rfl (same_n 402) (m_isIn _ _ _ _) ?_
  rintro v10 ρ10 σ10 ⟨rfl, e10, g10⟩
  obtain rfl := e10.symm
  obtain rfl := g10.symm
  exact Ev_ireturn rfl rfl (narZ _) rfl ⟨by rw [isIn_n (by have := hW.2.1; omega), l_of], rfl, rfl⟩
theorem m_strengthOf (d : Nat) (hρ : RF ρ) (hS : MStr σ S) {b i : Nat} (hb : b < 6) (hi : i < 8) : T l X d 197 [.ref 326, .int (nI b), .int (nI i)] 402 402 ρ σ (Rs (.int (nI (S b i))) ρ σ) := by
  refine T_of rfl ?_
  refine Ev_aload rfl rfl rfl ?_
  refine Ev_getR rfl (by first | rfl | assumption) (hρ _ _ _ rfl) ?_
  refine Ev_const rfl ?_
  refine Ev_const rfl ?_
  refine Ev_iload rfl rfl ?_
  refine Ev_imul rfl ?_
  refine Ev_norm (pk_mul 8 b) ?_
  refine Ev_iadd rfl ?_
  refine Ev_norm (nI_add 1 (8 * b)) ?_
  refine Ev_iload rfl rfl ?_
  refine Ev_iadd rfl ?_
  refine Ev_norm (nI_add (1 + 8 * b) i) ?_
  refine Ev_iald rfl (by first | rfl | assumption) (vp_in_nI (n := 1 + 8 * b + i) (show 1 + 8 * b + i < 242 by omega) (by decide)) ?_
  refine Ev_norm (by rw [nI_clamp (by omega)]; exact hS b i hb hi : _ = nI (S b i)) ?_
  exact Ev_ireturn rfl rfl rfl rfl ⟨rfl, rfl, rfl⟩
theorem m_witsOf (d : Nat) (hρ : RF ρ) (hW : WfN B) (hV : MWit σ B W) {b : Nat} (hb : b < nb B) : T l X d 198 [.ref 326, .int (nI b)] 402 402 ρ σ (Rs (.int (nI (W b))) ρ σ) := by
  have h6 := hW.2.1
  have hv := hV b hb
  refine T_of rfl ?_
  refine Ev_iload rfl rfl ?_
  refine Ev_aload rfl rfl rfl ?_
  refine Ev_getI rfl (by first | rfl | assumption) ?_
  refine Ev_icmp_ne rfl (fun h5 => ?_) (fun h5 => ?_)
  · refine Ev_aload rfl rfl rfl ?_
    refine Ev_getR rfl (by first | rfl | assumption) (hρ _ _ _ rfl) ?_
    refine Ev_const rfl ?_
    refine Ev_const rfl ?_
    refine Ev_iload rfl rfl ?_
    refine Ev_imul rfl ?_
    refine Ev_norm (pk_mul 2 b) ?_
    refine Ev_iadd rfl ?_
    refine Ev_norm (nI_add 13 (2 * b)) ?_
    refine Ev_iald rfl (by first | rfl | assumption) (vp_in_nI (n := 13 + 2 * b) (show 13 + 2 * b < 24 by omega) (by decide)) ?_
    refine Ev_norm (by rw [if_neg h5] at hv; rw [nI_clamp (by omega)]; exact hv : _ = nI (W b)) ?_
    exact Ev_ireturn rfl rfl rfl rfl ⟨rfl, rfl, rfl⟩
  · refine Ev_aload rfl rfl rfl ?_
    refine Ev_getI rfl (by first | rfl | assumption) ?_
    refine Ev_norm (by rw [if_pos (Decidable.not_not.mp h5)] at hv; exact hv : _ = nI (W b)) ?_
    refine Ev_goto rfl ?_
    exact Ev_ireturn rfl rfl rfl rfl ⟨rfl, rfl, rfl⟩
theorem ks_loop {d b : Nat} (hρ : RF ρ) (hN : MNum σ B) (hW : WfN B) (hS : MStr σ S) (hbd : ∀ i, S b i ≤ 99) (hb : b < 6) : ∀ (m k : Nat), k + m = ni B →
    Ev l X (d + 1) 199 4 [.ref 326, .int (nI b), .int (nI (kset k (S b))), .int (nI k)] [] 402 402 402 ρ σ (Rs (.int (nI (kset (ni B) (S b)))) ρ σ) := by
  have h8 := hW.1
  intro m
  induction m with
  | zero =>
    intro k hk
    refine Ev_iload rfl rfl ?_
    refine Ev_aload rfl rfl rfl ?_
    refine Ev_callV rfl rfl rfl rfl rfl (same_n 402) (m_ideaMany _ hρ hN) ?_
    rintro v6 ρ6 σ6 ⟨rfl, e6, g6⟩
    obtain rfl := e6.symm
    obtain rfl := g6.symm
    refine Ev_icmp_ge rfl (fun h9 => ?_) (fun h9 => absurd (nI_le (by omega) (by omega)) h9)
    refine Ev_iload rfl rfl ?_
    exact Ev_ireturn rfl rfl rfl rfl ⟨by rw [show k = ni B by omega], rfl, rfl⟩
  | succ m ih =>
    intro k hk
    refine Ev_iload rfl rfl ?_
    refine Ev_aload rfl rfl rfl ?_
    refine Ev_callV rfl rfl rfl rfl rfl (same_n 402) (m_ideaMany _ hρ hN) ?_
    rintro v6 ρ6 σ6 ⟨rfl, e6, g6⟩
    obtain rfl := e6.symm
    obtain rfl := g6.symm
    refine Ev_icmp_ge rfl (fun h9 => absurd h9 (nI_ge (by omega) (by omega))) (fun h9 => ?_)
    refine Ev_aload rfl rfl rfl ?_
    refine Ev_iload rfl rfl ?_
    refine Ev_iload rfl rfl ?_
    refine Ev_callV rfl rfl rfl rfl rfl (same_n 402) (m_strengthOf _ hρ hS hb (by omega)) ?_
    rintro v15 ρ15 σ15 ⟨rfl, e15, g15⟩
    obtain rfl := e15.symm
    obtain rfl := g15.symm
    refine Ev_if_le rfl (fun h18 => ?_) (fun h18 => ?_)
    · refine Ev_iincE rfl rfl (nI_1 k) ?_
      refine Ev_goto rfl ?_
      have e : kset (k + 1) (S b) = kset k (S b) := by
        show kset k (S b) + (if 0 < S b k then 2 ^ k else 0) = _
        rw [if_neg (fun q => nI_nle q (by have := hbd k; omega) h18)]
        rfl
      have := ih (k + 1) (by omega)
      rw [e] at this
      exact this
    · refine Ev_iload rfl rfl ?_
      refine Ev_const rfl ?_
      refine Ev_iload rfl rfl ?_
      refine Ev_ishl rfl ?_
      refine Ev_ior rfl ?_
      refine Ev_norm (set_bit (kset_lt k (S b)) (by omega)) ?_
      refine Ev_istore rfl ?_
      refine Ev_iincE rfl rfl (nI_1 k) ?_
      refine Ev_goto rfl ?_
      have e : kset (k + 1) (S b) = kset k (S b) + 2 ^ k := by
        show kset k (S b) + (if 0 < S b k then 2 ^ k else 0) = _
        rw [if_pos (Nat.pos_of_ne_zero (fun q => h18 (by rw [q]; decide)))]
      have := ih (k + 1) (by omega)
      rw [e] at this
      exact this
theorem m_knownSet (d : Nat) {b : Nat} (hρ : RF ρ) (hN : MNum σ B) (hW : WfN B) (hS : MStr σ S) (hbd : ∀ i, S b i ≤ 99) (hb : b < 6) : T l X (d + 1) 199 [.ref 326, .int (nI b)] 402 402 ρ σ (Rs (.int (nI (kset (ni B) (S b)))) ρ σ) := by
  refine T_of rfl ?_
  refine Ev_const rfl ?_
  refine Ev_istore rfl ?_
  refine Ev_const rfl ?_
  refine Ev_istore rfl ?_
  exact ks_loop hρ hN hW hS hbd hb (ni B) 0 (by omega)
theorem bits_loop {d : Nat} {z : Int32} : ∀ (m s n : Nat), pc s = m → s < 256 → Ev l X d 200 4 [.int z, .int (nI n), .int (nI s)] [] 402 402 402 ρ σ (Rs (.int (nI (n + m))) ρ σ) := by
  intro m
  induction m with
  | zero =>
    intro s n hm hs
    have h0 : s = 0 := Decidable.byContradiction fun q => by have := pc_step s hs q; omega
    subst h0
    refine Ev_iload rfl rfl ?_
    refine Ev_if_eq rfl (fun h5 => ?_) (fun h5 => absurd rfl h5)
    refine Ev_iload rfl rfl ?_
    exact Ev_ireturn rfl rfl rfl rfl ⟨rfl, rfl, rfl⟩
  | succ m ih =>
    intro s n hm hs
    have h0 : s ≠ 0 := fun q => by rw [q] at hm; exact absurd hm (by unfold pc; omega)
    refine Ev_iload rfl rfl ?_
    refine Ev_if_eq rfl (fun h5 => absurd h5 (nI_ne0 (by omega) (by omega))) (fun h5 => ?_)
    refine Ev_iincE rfl rfl (nI_1 n) ?_
    refine Ev_iload rfl rfl ?_
    refine Ev_iload rfl rfl ?_
    refine Ev_const rfl ?_
    refine Ev_isub rfl ?_
    refine Ev_norm (pk_sub (a := s) (b := 1) (by omega) : _ = nI (s - 1)) ?_
    refine Ev_iand rfl ?_
    refine Ev_norm (nI_and s (s - 1)) ?_
    refine Ev_istore rfl ?_
    refine Ev_goto rfl ?_
    have := ih (s &&& (s - 1)) (n + 1) (by have := pc_step s hs h0; omega) (Nat.lt_of_le_of_lt Nat.and_le_left hs)
    rw [show n + 1 + m = n + (m + 1) by omega] at this
    exact this
theorem m_bits (d : Nat) {s : Nat} (hs : s < 256) : T l X d 200 [.int (nI s)] 402 402 ρ σ (Rs (.int (nI (pc s))) ρ σ) := by
  refine T_of rfl ?_
  refine Ev_const rfl ?_
  refine Ev_istore rfl ?_
  refine Ev_iload rfl rfl ?_
  refine Ev_istore rfl ?_
  have := bits_loop (l := l) (X := X) (ρ := ρ) (σ := σ) (d := d) (z := nI s) (pc s) s 0 rfl hs
  rw [Nat.zero_add] at this
  exact this
theorem ks_256 {n : Nat} {f : Nat → Nat} (h : n ≤ 8) : kset n f < 256 := Nat.lt_of_lt_of_le (kset_lt n f) (Nat.pow_le_pow_right (by decide) h)
theorem m_knownBy (d : Nat) {b : Nat} (hρ : RF ρ) (hN : MNum σ B) (hW : WfN B) (hS : MStr σ S) (hbd : ∀ i, S b i ≤ 99) (hb : b < 6) : T l X (d + 2) 201 [.ref 326, .int (nI b)] 402 402 ρ σ (Rs (.int (nI (pc (kset (ni B) (S b))))) ρ σ) := by
  refine T_of rfl ?_
  refine Ev_aload rfl rfl rfl ?_
  refine Ev_iload rfl rfl ?_
  refine Ev_callV rfl rfl rfl rfl rfl (same_n 402) (m_knownSet _ hρ hN hW hS hbd hb) ?_
  rintro v2 ρ2 σ2 ⟨rfl, e2, g2⟩
  obtain rfl := e2.symm
  obtain rfl := g2.symm
  refine Ev_callS rfl rfl rfl rfl (same_n 402) (m_bits _ (ks_256 hW.1)) ?_
  rintro v5 ρ5 σ5 ⟨rfl, e5, g5⟩
  obtain rfl := e5.symm
  obtain rfl := g5.symm
  exact Ev_ireturn rfl rfl rfl rfl ⟨rfl, rfl, rfl⟩
theorem m_isRooted (d : Nat) {b i : Nat} (hρ : RF ρ) (hN : MNum σ B) (hW : WfN B) (hT : MTab σ B) (hS : MStr σ S) (hbd : ∀ i, S b i ≤ 99) (hb : b < 6) (hi : i < ni B) : T l X (d + 2) 202 [.ref 326, .int (nI b), .int (nI i)] 402 402 ρ σ (Rs (.int (bI (rtd B (kset (ni B) (S b)) i))) ρ σ) := by
  have h8 := hW.1
  refine T_of rfl ?_
  refine Ev_aload rfl rfl rfl ?_
  refine Ev_getR rfl (by first | rfl | assumption) (hρ _ _ _ rfl) ?_
  refine Ev_const rfl ?_
  refine Ev_iload rfl rfl ?_
  refine Ev_iadd rfl ?_
  refine Ev_norm (nI_add 8 i) ?_
  refine Ev_iald rfl (by first | rfl | assumption) (vp_in_nI (n := 8 + i) (show 8 + i < 16 by omega) (by decide)) ?_
  refine Ev_norm (by rw [nI_clamp (by omega)]; exact (hT.1 i hi).2 : _ = nI (nee B i)) ?_
  refine Ev_aload rfl rfl rfl ?_
  refine Ev_iload rfl rfl ?_
  refine Ev_callV rfl rfl rfl rfl rfl (same_n 402) (m_knownSet _ hρ hN hW hS hbd hb) ?_
  rintro v11 ρ11 σ11 ⟨rfl, e11, g11⟩
  obtain rfl := e11.symm
  obtain rfl := g11.symm
  refine Ev_const rfl ?_
  refine Ev_ixor rfl ?_
  refine Ev_iand rfl ?_
  refine Ev_if_ne rfl (fun h17 => ?_) (fun h17 => ?_)
  · refine Ev_const rfl ?_
    exact Ev_ireturn rfl rfl rfl rfl ⟨by rw [show rtd B (kset (ni B) (S b)) i = false from decide_eq_false h17]; rfl, rfl, rfl⟩
  · refine Ev_const rfl ?_
    refine Ev_goto rfl ?_
    exact Ev_ireturn rfl rfl rfl rfl ⟨by rw [show rtd B (kset (ni B) (S b)) i = true from decide_eq_true (Decidable.not_not.mp h17)]; rfl, rfl, rfl⟩
end S26
