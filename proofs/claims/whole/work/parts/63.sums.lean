/-! Sums over bathers and ideas, roots: both sides. -/
theorem MRd.of_len {n : Nat} (f : Nat → Nat) : sumf (n + 1) f = sumf n f + f n := rfl
/-- all strengths, all known, who knows an idea -/
def sAll (B : Bh) (S : Str) : Nat := sumf (nb B) (fun b => sumf 8 (S b))
def kAll (B : Bh) (S : Str) : Nat := sumf (nb B) (fun b => pc (kset (ni B) (S b)))
def kWho (B : Bh) (S : Str) (i : Nat) : Nat := sumf (nb B) (fun b => if 0 < S b i then 1 else 0)
section S63
variable {l : Launch} {X : Cx} {ρ : Rf} {σ : St} {B : Bh} {S : Str} {q : Nat}
theorem ak_loop {d : Nat} (hb : ρ 0 2 = some q) (hR : CRd ρ σ q B) (hW : WfN B) (hS : CStr σ S) (hSw : WfS B S) : ∀ (m k : Nat), k + m = nb B → Ev l X (d + 2) 109 4 [.ref 0, .int (nI (sumf k (fun b => pc (kset (ni B) (S b))))), .int (nI k)] [] 402 402 402 ρ σ (Rs (.int (nI (kAll B S))) ρ σ) := by
  have hρ := hR.1
  have n6 := hW.2.1
  intro m
  induction m with
  | zero =>
    intro k hk
    have hk : k = nb B := by omega
    subst hk
    refine Ev_iload rfl rfl ?_
    refine Ev_aload rfl rfl rfl ?_
    refine Ev_getR rfl (by first | rfl | assumption) hb ?_
    refine Ev_getI rfl (by rcases hR.2.1 with rfl | rfl <;> rfl) ?_
    refine Ev_norm hR.2.2.2.1.2.2.1 ?_
    refine Ev_icmp_ge rfl (fun h12 => ?_) (fun h12 => absurd (nI_le (Nat.le_refl _) (by omega)) h12)
    refine Ev_iload rfl rfl ?_
    exact Ev_ireturn rfl rfl rfl rfl ⟨rfl, rfl, rfl⟩
  | succ m ih =>
    intro k hk
    refine Ev_iload rfl rfl ?_
    refine Ev_aload rfl rfl rfl ?_
    refine Ev_getR rfl (by first | rfl | assumption) hb ?_
    refine Ev_getI rfl (by rcases hR.2.1 with rfl | rfl <;> rfl) ?_
    refine Ev_norm hR.2.2.2.1.2.2.1 ?_
    refine Ev_icmp_ge rfl (fun h12 => absurd h12 (nI_ge (by omega) (by omega))) (fun h12 => ?_)
    refine Ev_iload rfl rfl ?_
    refine Ev_aload rfl rfl rfl ?_
    refine Ev_getR rfl (by first | rfl | assumption) (hρ _ _ _ rfl) ?_
    refine Ev_getR rfl (by first | rfl | assumption) (hρ _ _ _ rfl) ?_
    refine Ev_iload rfl rfl ?_
    refine Ev_aald (t := 4) rfl (Or.inl rfl) (by first | rfl | assumption) (vp_in_nI (n := k) (show k < 6 by omega) (by decide)) (by rw [nI_clamp (by omega)]; exact rf33 hρ (by omega) : _ = some (34 + k)) ?_
    refine Ev_callS rfl rfl rfl rfl (same_n 402) (t_bitsKnown _ (rowN (by omega)) (hS k (by omega)) (fun i => (hSw k i).1)) ?_
    rintro v25 ρ25 σ25 ⟨rfl, e25, g25⟩
    obtain rfl := e25.symm
    obtain rfl := g25.symm
    refine Ev_norm (by rw [kset_8 hW (hSw.row k)] : _ = nI (kset (ni B) (S k))) ?_
    refine Ev_callS rfl rfl rfl rfl (same_n 402) (t_bitCount _ _) ?_
    rintro v28 ρ28 σ28 ⟨rfl, e28, g28⟩
    obtain rfl := e28.symm
    obtain rfl := g28.symm
    refine Ev_norm (pc_bit _ (ks_256 hW.1)) ?_
    refine Ev_iadd rfl ?_
    refine Ev_norm (nI_add _ _) ?_
    refine Ev_istore rfl ?_
    refine Ev_iincE rfl rfl (nI_1 k) ?_
    refine Ev_goto rfl ?_
    exact ih (k + 1) (by omega)
theorem t_allKnown (d : Nat) (hb : ρ 0 2 = some q) (hR : CRd ρ σ q B) (hW : WfN B) (hS : CStr σ S) (hSw : WfS B S) : T l X (d + 2) 109 [.ref 0] 402 402 ρ σ (Rs (.int (nI (kAll B S))) ρ σ) := by
  refine T_of rfl ?_
  refine Ev_const rfl ?_
  refine Ev_istore rfl ?_
  refine Ev_const rfl ?_
  refine Ev_istore rfl ?_
  exact ak_loop hb hR hW hS hSw (nb B) 0 (by omega)
theorem as_loop {d : Nat} (hb : ρ 0 2 = some q) (hR : CRd ρ σ q B) (hW : WfN B) (hS : CStr σ S) : ∀ (m k : Nat), k + m = nb B → Ev l X (d + 1) 110 4 [.ref 0, .int (nI (sumf k (fun b => sumf 8 (S b)))), .int (nI k)] [] 402 402 402 ρ σ (Rs (.int (nI (sAll B S))) ρ σ) := by
  have hρ := hR.1
  have n6 := hW.2.1
  intro m
  induction m with
  | zero =>
    intro k hk
    have hk : k = nb B := by omega
    subst hk
    refine Ev_iload rfl rfl ?_
    refine Ev_aload rfl rfl rfl ?_
    refine Ev_getR rfl (by first | rfl | assumption) hb ?_
    refine Ev_getI rfl (by rcases hR.2.1 with rfl | rfl <;> rfl) ?_
    refine Ev_norm hR.2.2.2.1.2.2.1 ?_
    refine Ev_icmp_ge rfl (fun h12 => ?_) (fun h12 => absurd (nI_le (Nat.le_refl _) (by omega)) h12)
    refine Ev_iload rfl rfl ?_
    exact Ev_ireturn rfl rfl rfl rfl ⟨rfl, rfl, rfl⟩
  | succ m ih =>
    intro k hk
    refine Ev_iload rfl rfl ?_
    refine Ev_aload rfl rfl rfl ?_
    refine Ev_getR rfl (by first | rfl | assumption) hb ?_
    refine Ev_getI rfl (by rcases hR.2.1 with rfl | rfl <;> rfl) ?_
    refine Ev_norm hR.2.2.2.1.2.2.1 ?_
    refine Ev_icmp_ge rfl (fun h12 => absurd h12 (nI_ge (by omega) (by omega))) (fun h12 => ?_)
    refine Ev_iload rfl rfl ?_
    refine Ev_aload rfl rfl rfl ?_
    refine Ev_getR rfl (by first | rfl | assumption) (hρ _ _ _ rfl) ?_
    refine Ev_getR rfl (by first | rfl | assumption) (hρ _ _ _ rfl) ?_
    refine Ev_iload rfl rfl ?_
    refine Ev_aald (t := 4) rfl (Or.inl rfl) (by first | rfl | assumption) (vp_in_nI (n := k) (show k < 6 by omega) (by decide)) (by rw [nI_clamp (by omega)]; exact rf33 hρ (by omega) : _ = some (34 + k)) ?_
    refine Ev_callS rfl rfl rfl rfl (same_n 402) (t_sumOf _ (rowN (by omega)) (hS k (by omega))) ?_
    rintro v25 ρ25 σ25 ⟨rfl, e25, g25⟩
    obtain rfl := e25.symm
    obtain rfl := g25.symm
    refine Ev_iadd rfl ?_
    refine Ev_norm (nI_add _ _) ?_
    refine Ev_istore rfl ?_
    refine Ev_iincE rfl rfl (nI_1 k) ?_
    refine Ev_goto rfl ?_
    exact ih (k + 1) (by omega)
theorem t_allStrengths (d : Nat) (hb : ρ 0 2 = some q) (hR : CRd ρ σ q B) (hW : WfN B) (hS : CStr σ S) : T l X (d + 1) 110 [.ref 0] 402 402 ρ σ (Rs (.int (nI (sAll B S))) ρ σ) := by
  refine T_of rfl ?_
  refine Ev_const rfl ?_
  refine Ev_istore rfl ?_
  refine Ev_const rfl ?_
  refine Ev_istore rfl ?_
  exact as_loop hb hR hW hS (nb B) 0 (by omega)
theorem kw_loop {d i : Nat} (hb : ρ 0 2 = some q) (hR : CRd ρ σ q B) (hW : WfN B) (hS : CStr σ S) (hSw : WfS B S) (hi : i < ni B) : ∀ (m k : Nat), k + m = nb B → Ev l X d 113 4 [.ref 0, .int (nI i), .int (nI (sumf k (fun b => if 0 < S b i then 1 else 0))), .int (nI k)] [] 402 402 402 ρ σ (Rs (.int (nI (kWho B S i))) ρ σ) := by
  have hρ := hR.1
  have n6 := hW.2.1
  have n8 := hW.1
  intro m
  induction m with
  | zero =>
    intro k hk
    have hk : k = nb B := by omega
    subst hk
    refine Ev_iload rfl rfl ?_
    refine Ev_aload rfl rfl rfl ?_
    refine Ev_getR rfl (by first | rfl | assumption) hb ?_
    refine Ev_getI rfl (by rcases hR.2.1 with rfl | rfl <;> rfl) ?_
    refine Ev_norm hR.2.2.2.1.2.2.1 ?_
    refine Ev_icmp_ge rfl (fun h12 => ?_) (fun h12 => absurd (nI_le (Nat.le_refl _) (by omega)) h12)
    refine Ev_iload rfl rfl ?_
    exact Ev_ireturn rfl rfl rfl rfl ⟨rfl, rfl, rfl⟩
  | succ m ih =>
    intro k hk
    have h99 := (hSw k i).1
    refine Ev_iload rfl rfl ?_
    refine Ev_aload rfl rfl rfl ?_
    refine Ev_getR rfl (by first | rfl | assumption) hb ?_
    refine Ev_getI rfl (by rcases hR.2.1 with rfl | rfl <;> rfl) ?_
    refine Ev_norm hR.2.2.2.1.2.2.1 ?_
    refine Ev_icmp_ge rfl (fun h12 => absurd h12 (nI_ge (by omega) (by omega))) (fun h12 => ?_)
    refine Ev_aload rfl rfl rfl ?_
    refine Ev_getR rfl (by first | rfl | assumption) (hρ _ _ _ rfl) ?_
    refine Ev_getR rfl (by first | rfl | assumption) (hρ _ _ _ rfl) ?_
    refine Ev_iload rfl rfl ?_
    refine Ev_aald (t := 4) rfl (Or.inl rfl) (by first | rfl | assumption) (vp_in_nI (n := k) (show k < 6 by omega) (by decide)) (by rw [nI_clamp (by omega)]; exact rf33 hρ (by omega) : _ = some (34 + k)) ?_
    refine Ev_iload rfl rfl ?_
    refine Ev_iald rfl ((rowN (show k < 6 by omega)).1) (by rw [(rowN (show k < 6 by omega)).2.1]; exact vp_in_nI (n := i) (show i < 8 by omega) (by decide)) ?_
    refine Ev_norm (by rw [nI_clamp (by omega)]; exact hS k (by omega) i (by omega) : _ = nI (S k i)) ?_
    refine Ev_if_le rfl (fun h26 => ?_) (fun h26 => ?_)
    · refine Ev_iincE rfl rfl (nI_1 k) ?_
      refine Ev_goto rfl ?_
      have e : sumf (k + 1) (fun b => if 0 < S b i then 1 else 0) = sumf k (fun b => if 0 < S b i then 1 else 0) := by
        show _ + (if 0 < S k i then 1 else 0) = _
        rw [if_neg (fun z => nI_nle z (by omega) h26)]; rfl
      have := ih (k + 1) (by omega)
      rw [e] at this
      exact this
    · refine Ev_iincE rfl rfl (nI_1 _) ?_
      refine Ev_iincE rfl rfl (nI_1 k) ?_
      refine Ev_goto rfl ?_
      have e : sumf (k + 1) (fun b => if 0 < S b i then 1 else 0) = sumf k (fun b => if 0 < S b i then 1 else 0) + 1 := by
        show _ + (if 0 < S k i then 1 else 0) = _
        rw [if_pos (Nat.pos_of_ne_zero (fun z => h26 (by rw [z]; decide)))]
      have := ih (k + 1) (by omega)
      rw [e] at this
      exact this
theorem t_knowers (d : Nat) {i : Nat} (hb : ρ 0 2 = some q) (hR : CRd ρ σ q B) (hW : WfN B) (hS : CStr σ S) (hSw : WfS B S) (hi : i < ni B) : T l X d 113 [.ref 0, .int (nI i)] 402 402 ρ σ (Rs (.int (nI (kWho B S i))) ρ σ) := by
  refine T_of rfl ?_
  refine Ev_const rfl ?_
  refine Ev_istore rfl ?_
  refine Ev_const rfl ?_
  refine Ev_istore rfl ?_
  exact kw_loop hb hR hW hS hSw hi (nb B) 0 (by omega)
/-! the reference -/
theorem mkk_loop {d : Nat} (hρ : RF ρ) (hN : MNum σ B) (hW : WfN B) (hS : MStr σ S) (hSw : WfS B S) : ∀ (m k : Nat), k + m = nb B → Ev l X (d + 3) 219 4 [.ref 326, .int (nI (sumf k (fun b => pc (kset (ni B) (S b))))), .int (nI k)] [] 402 402 402 ρ σ (Rs (.int (nI (kAll B S))) ρ σ) := by
  have n6 := hW.2.1
  intro m
  induction m with
  | zero =>
    intro k hk
    have hk : k = nb B := by omega
    subst hk
    refine Ev_iload rfl rfl ?_
    refine Ev_aload rfl rfl rfl ?_
    refine Ev_callV rfl rfl rfl rfl rfl (same_n 402) (m_batherMany _ hρ hN) ?_
    rintro v6 ρ6 σ6 ⟨rfl, e6, g6⟩
    obtain rfl := e6.symm
    obtain rfl := g6.symm
    refine Ev_icmp_ge rfl (fun h9 => ?_) (fun h9 => absurd (nI_le (Nat.le_refl _) (by omega)) h9)
    refine Ev_iload rfl rfl ?_
    exact Ev_ireturn rfl rfl rfl rfl ⟨rfl, rfl, rfl⟩
  | succ m ih =>
    intro k hk
    refine Ev_iload rfl rfl ?_
    refine Ev_aload rfl rfl rfl ?_
    refine Ev_callV rfl rfl rfl rfl rfl (same_n 402) (m_batherMany _ hρ hN) ?_
    rintro v6 ρ6 σ6 ⟨rfl, e6, g6⟩
    obtain rfl := e6.symm
    obtain rfl := g6.symm
    refine Ev_icmp_ge rfl (fun h9 => absurd h9 (nI_ge (by omega) (by omega))) (fun h9 => ?_)
    refine Ev_iload rfl rfl ?_
    refine Ev_aload rfl rfl rfl ?_
    refine Ev_iload rfl rfl ?_
    refine Ev_callV rfl rfl rfl rfl rfl (same_n 402) (m_knownBy _ hρ hN hW hS (fun i => (hSw k i).1) (by omega)) ?_
    rintro v15 ρ15 σ15 ⟨rfl, e15, g15⟩
    obtain rfl := e15.symm
    obtain rfl := g15.symm
    refine Ev_iadd rfl ?_
    refine Ev_norm (nI_add _ _) ?_
    refine Ev_istore rfl ?_
    refine Ev_iincE rfl rfl (nI_1 k) ?_
    refine Ev_goto rfl ?_
    exact ih (k + 1) (by omega)
theorem m_knownAll (d : Nat) (hρ : RF ρ) (hN : MNum σ B) (hW : WfN B) (hS : MStr σ S) (hSw : WfS B S) : T l X (d + 3) 219 [.ref 326] 402 402 ρ σ (Rs (.int (nI (kAll B S))) ρ σ) := by
  refine T_of rfl ?_
  refine Ev_const rfl ?_
  refine Ev_istore rfl ?_
  refine Ev_const rfl ?_
  refine Ev_istore rfl ?_
  exact mkk_loop hρ hN hW hS hSw (nb B) 0 (by omega)
theorem msa_loop {d o n : Nat} {g : Nat → Nat} (hρ : RF ρ) (ho : o + n ≤ 242) (hg : ∀ k, k < n → σ.1 365 (o + k) = nI (g k)) : ∀ (m k : Nat), k + m = n → Ev l X d 218 5 [.ref 326, .int (nI o), .int (nI n), .int (nI (sumf k g)), .int (nI k)] [] 402 402 402 ρ σ (Rs (.int (nI (sumf n g))) ρ σ) := by
  intro m
  induction m with
  | zero =>
    intro k hk
    have hk : k = n := by omega
    subst hk
    refine Ev_iload rfl rfl ?_
    refine Ev_iload rfl rfl ?_
    refine Ev_icmp_ge rfl (fun h8 => ?_) (fun h8 => absurd (nI_le (Nat.le_refl _) (by omega)) h8)
    refine Ev_iload rfl rfl ?_
    exact Ev_ireturn rfl rfl rfl rfl ⟨rfl, rfl, rfl⟩
  | succ m ih =>
    intro k hk
    refine Ev_iload rfl rfl ?_
    refine Ev_iload rfl rfl ?_
    refine Ev_icmp_ge rfl (fun h8 => absurd h8 (nI_ge (by omega) (by omega))) (fun h8 => ?_)
    refine Ev_iload rfl rfl ?_
    refine Ev_aload rfl rfl rfl ?_
    refine Ev_getR rfl (by first | rfl | assumption) (hρ _ _ _ rfl) ?_
    refine Ev_iload rfl rfl ?_
    refine Ev_iload rfl rfl ?_
    refine Ev_iadd rfl ?_
    refine Ev_norm (nI_add o k) ?_
    refine Ev_iald rfl (by first | rfl | assumption) (vp_in_nI (n := o + k) (show o + k < 242 by omega) (by decide)) ?_
    refine Ev_norm (by rw [nI_clamp (by omega)]; exact hg k (by omega) : _ = nI (g k)) ?_
    refine Ev_iadd rfl ?_
    refine Ev_norm (nI_add _ _) ?_
    refine Ev_istore rfl ?_
    refine Ev_iincE rfl rfl (nI_1 k) ?_
    refine Ev_goto rfl ?_
    exact ih (k + 1) (by omega)
theorem m_strengthAll (d : Nat) {o n : Nat} {g : Nat → Nat} (hρ : RF ρ) (ho : o + n ≤ 242) (hg : ∀ k, k < n → σ.1 365 (o + k) = nI (g k)) : T l X d 218 [.ref 326, .int (nI o), .int (nI n)] 402 402 ρ σ (Rs (.int (nI (sumf n g))) ρ σ) := by
  refine T_of rfl ?_
  refine Ev_const rfl ?_
  refine Ev_istore rfl ?_
  refine Ev_const rfl ?_
  refine Ev_istore rfl ?_
  exact msa_loop hρ ho hg n 0 (by omega)
theorem sum_48 {f : Nat → Nat → Nat} : ∀ n, sumf (8 * n) (fun k => f (k / 8) (k % 8)) = sumf n (fun b => sumf 8 (f b)) := by
  intro n
  induction n with
  | zero => rfl
  | succ n ih =>
    show sumf (8 * n + 8) (fun k => f (k / 8) (k % 8)) = sumf n (fun b => sumf 8 (f b)) + sumf 8 (f n)
    rw [← ih]
    have e : ∀ j, j < 8 → f ((8 * n + j) / 8) ((8 * n + j) % 8) = f n j := fun j hj => by rw [show (8 * n + j) / 8 = n by omega, show (8 * n + j) % 8 = j by omega]
    show sumf (8 * n) (fun k => f (k / 8) (k % 8)) + f ((8 * n + 0) / 8) ((8 * n + 0) % 8) + f ((8 * n + 1) / 8) ((8 * n + 1) % 8) + f ((8 * n + 2) / 8) ((8 * n + 2) % 8) + f ((8 * n + 3) / 8) ((8 * n + 3) % 8) + f ((8 * n + 4) / 8) ((8 * n + 4) % 8) + f ((8 * n + 5) / 8) ((8 * n + 5) % 8) + f ((8 * n + 6) / 8) ((8 * n + 6) % 8) + f ((8 * n + 7) / 8) ((8 * n + 7) % 8) = _
    rw [e 0 (by decide), e 1 (by decide), e 2 (by decide), e 3 (by decide), e 4 (by decide), e 5 (by decide), e 6 (by decide), e 7 (by decide)]
    show _ = _ + (0 + f n 0 + f n 1 + f n 2 + f n 3 + f n 4 + f n 5 + f n 6 + f n 7)
    omega
theorem sAll_48 (hW : WfN B) (hSw : WfS B S) : sumf 48 (fun k => S (k / 8) (k % 8)) = sAll B S := by
  have := sum_48 (f := S) 6
  rw [show 8 * 6 = 48 by decide] at this
  rw [this]
  exact sumf_zero (f := fun b => sumf 8 (S b)) (fun b hb => by
    show sumf 8 (S b) = 0
    rw [sumf_congr (g := fun _ => 0) (fun k _ => (hSw b k).2 (Or.inl hb))]
    rfl) hW.2.1
theorem mkw_loop {d i : Nat} (hρ : RF ρ) (hN : MNum σ B) (hW : WfN B) (hS : MStr σ S) (hSw : WfS B S) (hi : i < ni B) : ∀ (m k : Nat), k + m = nb B → Ev l X (d + 1) 223 4 [.ref 326, .int (nI i), .int (nI (sumf k (fun b => if 0 < S b i then 1 else 0))), .int (nI k)] [] 402 402 402 ρ σ (Rs (.int (nI (kWho B S i))) ρ σ) := by
  have n6 := hW.2.1
  have n8 := hW.1
  intro m
  induction m with
  | zero =>
    intro k hk
    have hk : k = nb B := by omega
    subst hk
    refine Ev_iload rfl rfl ?_
    refine Ev_aload rfl rfl rfl ?_
    refine Ev_callV rfl rfl rfl rfl rfl (same_n 402) (m_batherMany _ hρ hN) ?_
    rintro v6 ρ6 σ6 ⟨rfl, e6, g6⟩
    obtain rfl := e6.symm
    obtain rfl := g6.symm
    refine Ev_icmp_ge rfl (fun h9 => ?_) (fun h9 => absurd (nI_le (Nat.le_refl _) (by omega)) h9)
    refine Ev_iload rfl rfl ?_
    exact Ev_ireturn rfl rfl rfl rfl ⟨rfl, rfl, rfl⟩
  | succ m ih =>
    intro k hk
    have h99 := (hSw k i).1
    refine Ev_iload rfl rfl ?_
    refine Ev_aload rfl rfl rfl ?_
    refine Ev_callV rfl rfl rfl rfl rfl (same_n 402) (m_batherMany _ hρ hN) ?_
    rintro v6 ρ6 σ6 ⟨rfl, e6, g6⟩
    obtain rfl := e6.symm
    obtain rfl := g6.symm
    refine Ev_icmp_ge rfl (fun h9 => absurd h9 (nI_ge (by omega) (by omega))) (fun h9 => ?_)
    refine Ev_aload rfl rfl rfl ?_
    refine Ev_iload rfl rfl ?_
    refine Ev_iload rfl rfl ?_
    refine Ev_callV rfl rfl rfl rfl rfl (same_n 402) (m_strengthOf _ hρ hS (by omega) (by omega)) ?_
    rintro v15 ρ15 σ15 ⟨rfl, e15, g15⟩
    obtain rfl := e15.symm
    obtain rfl := g15.symm
    refine Ev_if_le rfl (fun h18 => ?_) (fun h18 => ?_)
    · refine Ev_iincE rfl rfl (nI_1 k) ?_
      refine Ev_goto rfl ?_
      have e : sumf (k + 1) (fun b => if 0 < S b i then 1 else 0) = sumf k (fun b => if 0 < S b i then 1 else 0) := by
        show _ + (if 0 < S k i then 1 else 0) = _
        rw [if_neg (fun z => nI_nle z (by omega) h18)]; rfl
      have := ih (k + 1) (by omega)
      rw [e] at this
      exact this
    · refine Ev_iincE rfl rfl (nI_1 _) ?_
      refine Ev_iincE rfl rfl (nI_1 k) ?_
      refine Ev_goto rfl ?_
      have e : sumf (k + 1) (fun b => if 0 < S b i then 1 else 0) = sumf k (fun b => if 0 < S b i then 1 else 0) + 1 := by
        show _ + (if 0 < S k i then 1 else 0) = _
        rw [if_pos (Nat.pos_of_ne_zero (fun z => h18 (by rw [z]; decide)))]
      have := ih (k + 1) (by omega)
      rw [e] at this
      exact this
theorem m_knowersOf (d : Nat) {i : Nat} (hρ : RF ρ) (hN : MNum σ B) (hW : WfN B) (hS : MStr σ S) (hSw : WfS B S) (hi : i < ni B) : T l X (d + 1) 223 [.ref 326, .int (nI i)] 402 402 ρ σ (Rs (.int (nI (kWho B S i))) ρ σ) := by
  refine T_of rfl ?_
  refine Ev_const rfl ?_
  refine Ev_istore rfl ?_
  refine Ev_const rfl ?_
  refine Ev_istore rfl ?_
  exact mkw_loop hρ hN hW hS hSw hi (nb B) 0 (by omega)
theorem mro_loop {d i : Nat} (hρ : RF ρ) (hW : WfN B) (hT : MTab σ B) (hWt : WfT B) (hi : i < ni B) {ret : Nat} : ∀ (k s : Nat), k ≤ i → s < 256 → rfRo B k s = ret → Ev l X d 222 14 [.ref 326, .int (nI i), .int (nI s), .int (nI k - 1)] [] 402 402 402 ρ σ (Rs (.int (nI ret)) ρ σ) := by
  have n8 := hW.1
  intro k
  induction k with
  | zero =>
    intro s hk hs hr
    refine Ev_iload rfl rfl ?_
    refine Ev_if_lt rfl (fun h15 => ?_) (fun h15 => absurd (by decide) h15)
    refine Ev_iload rfl rfl ?_
    exact Ev_ireturn rfl rfl rfl rfl ⟨by rw [← hr]; rfl, rfl, rfl⟩
  | succ k ih =>
    intro s hk hs hr
    have hne := (hT.1 k (by omega)).2
    have hn2 := (hWt.1 k (by omega)).2
    rw [nI_pred]
    have hr : rfRo B k (if s / 2 ^ k % 2 = 1 then s ||| nee B k else s) = ret := hr
    refine Ev_iload rfl rfl ?_
    refine Ev_if_lt rfl (fun h15 => absurd h15 (nI_pos (by omega))) (fun h15 => ?_)
    refine Ev_iload rfl rfl ?_
    refine Ev_iload rfl rfl ?_
    refine Ev_ishr rfl ?_
    refine Ev_const rfl ?_
    refine Ev_iand rfl ?_
    refine Ev_norm (sh_8 hs (show k < 8 by omega)) ?_
    refine Ev_const rfl ?_
    refine Ev_icmp_ne rfl (fun h24 => ?_) (fun h24 => ?_)
    · refine Ev_iincE rfl rfl (by rw [Int32.sub_eq_add_neg] : _ = nI k - 1) ?_
      refine Ev_goto rfl ?_
      have hc : ¬ s / 2 ^ k % 2 = 1 := fun z => h24 (by rw [z]; rfl)
      rw [if_neg hc] at hr
      exact ih s (by omega) hs hr
    · refine Ev_iload rfl rfl ?_
      refine Ev_aload rfl rfl rfl ?_
      refine Ev_getR rfl (by first | rfl | assumption) (hρ _ _ _ rfl) ?_
      refine Ev_const rfl ?_
      refine Ev_iload rfl rfl ?_
      refine Ev_iadd rfl ?_
      refine Ev_norm (nI_add 8 k) ?_
      refine Ev_iald rfl (by first | rfl | assumption) (vp_in_nI (n := 8 + k) (show 8 + k < 16 by omega) (by decide)) ?_
      refine Ev_norm (by rw [nI_clamp (by omega)]; exact hne : _ = nI (nee B k)) ?_
      refine Ev_ior rfl ?_
      refine Ev_norm (nI_or _ _) ?_
      refine Ev_istore rfl ?_
      refine Ev_iincE rfl rfl (by rw [Int32.sub_eq_add_neg] : _ = nI k - 1) ?_
      refine Ev_goto rfl ?_
      have hc : s / 2 ^ k % 2 = 1 := (nI_lit (z := 1) (n := 1) rfl (by omega) (by decide)).mp (Decidable.not_not.mp h24)
      rw [if_pos hc] at hr
      exact ih _ (by omega) (Nat.or_lt_two_pow (n := 8) hs hn2) hr
theorem m_rootsOf (d : Nat) {i : Nat} (hρ : RF ρ) (hW : WfN B) (hT : MTab σ B) (hWt : WfT B) (hi : i < ni B) : T l X d 222 [.ref 326, .int (nI i)] 402 402 ρ σ (Rs (.int (nI (roM B i))) ρ σ) := by
  have n8 := hW.1
  have hne := (hT.1 i hi).2
  refine T_of rfl ?_
  refine Ev_aload rfl rfl rfl ?_
  refine Ev_getR rfl (by first | rfl | assumption) (hρ _ _ _ rfl) ?_
  refine Ev_const rfl ?_
  refine Ev_iload rfl rfl ?_
  refine Ev_iadd rfl ?_
  refine Ev_norm (nI_add 8 i) ?_
  refine Ev_iald rfl (by first | rfl | assumption) (vp_in_nI (n := 8 + i) (show 8 + i < 16 by omega) (by decide)) ?_
  refine Ev_norm (by rw [nI_clamp (by omega)]; exact hne : _ = nI (nee B i)) ?_
  refine Ev_istore rfl ?_
  refine Ev_iload rfl rfl ?_
  refine Ev_const rfl ?_
  refine Ev_isub rfl ?_
  refine Ev_istore rfl ?_
  exact mro_loop hρ hW hT hWt hi i (nee B i) (Nat.le_refl _) (hWt.1 i hi).2 rfl
end S63
