/-! Letters of names. -/
theorem n5_at : ∀ (l : List Nat) (k : Nat), (∀ c ∈ l, c ≤ 26) → n5 l / 32 ^ k % 32 = l.getD k 0 := by
  intro l
  induction l with
  | nil => intro k _; show 0 / 32 ^ k % 32 = _; rw [Nat.zero_div]; cases k <;> rfl
  | cons c l ih =>
    intro k h
    have hc := h c List.mem_cons_self
    cases k with
    | zero =>
      show (c + 32 * n5 l) / 32 ^ 0 % 32 = c
      rw [Nat.pow_zero, Nat.div_one]; omega
    | succ k =>
      show (c + 32 * n5 l) / 32 ^ (k + 1) % 32 = l.getD k 0
      rw [Nat.pow_succ, Nat.mul_comm (32 ^ k) 32, ← Nat.div_div_eq_div_mul, show (c + 32 * n5 l) / 32 = n5 l by omega]
      exact ih k (fun c hc => h c (List.mem_cons_of_mem _ hc))
theorem n5_lt : ∀ (l : List Nat), (∀ c ∈ l, c ≤ 26) → n5 l < 32 ^ l.length := by
  intro l
  induction l with
  | nil => intro _; exact Nat.zero_lt_one
  | cons c l ih =>
    intro h
    have hc := h c List.mem_cons_self
    have := ih (fun c hc => h c (List.mem_cons_of_mem _ hc))
    show c + 32 * n5 l < 32 ^ (l.length + 1)
    rw [Nat.pow_succ]; omega
theorem n27_app : ∀ (a b : List Nat) (v : Nat), n27 v (a ++ b) = n27 (n27 v a) b := by
  intro a
  induction a with
  | nil => intro b v; rfl
  | cons c a ih => intro b v; exact ih b _
def g27 (l : List Nat) (m : Nat) : Nat := n27 0 (l.take m)
theorem g27_s {l : List Nat} {m : Nat} (h : m < l.length) : g27 l (m + 1) = 27 * g27 l m + l.getD m 0 := by
  unfold g27
  rw [← List.take_append_getElem h, n27_app]
  show 27 * n27 0 (l.take m) + l[m] = _
  rw [List.getD_eq_getElem?_getD, List.getElem?_eq_getElem h]
  rfl
theorem g27_lt {l : List Nat} (h : ∀ c ∈ l, c ≤ 26) : ∀ m, m ≤ l.length → g27 l m < 27 ^ m := by
  intro m
  induction m with
  | zero => intro _; exact Nat.zero_lt_one
  | succ m ih =>
    intro hm
    have h1 := ih (by omega)
    rw [g27_s (by omega), Nat.pow_succ]
    have : l.getD m 0 ≤ 26 := by
      rw [List.getD_eq_getElem?_getD, List.getElem?_eq_getElem (by omega)]
      exact h _ (List.getElem_mem _)
    omega
theorem lN_T {n : Nat} (h : n < 2 ^ 31) : (lN n).toInt = (n : Int) := lN_toInt h
section S65
variable {l : Launch} {X : Cx}
theorem t_letterOf (d : Nat) {ρ : Rf} {σ : St} {nm : List Nat} {k : Nat} (h26 : ∀ c ∈ nm, c ≤ 26) (h6 : nm.length ≤ 6) (hk : k < 6) : T l X d 157 [.int (nI (n5 nm)), .int (nI k)] 402 402 ρ σ (Rs (.int (nI (nm.getD k 0))) ρ σ) := by
  have hlt : n5 nm < 2 ^ 31 := Nat.lt_of_lt_of_le (n5_lt nm h26) (Nat.le_trans (Nat.pow_le_pow_right (by decide) h6) (by decide))
  have hsh : ∀ k, k < 6 → ((nI (5 * k) &&& 31).toBitVec.smod 32).toNat = 5 * k := by decide
  refine T_of rfl ?_
  refine Ev_iload rfl rfl ?_
  refine Ev_const rfl ?_
  refine Ev_iload rfl rfl ?_
  refine Ev_imul rfl ?_
  refine Ev_norm (pk_mul 5 k : _ = nI (5 * k)) ?_
  refine Ev_ishr rfl ?_
  refine Ev_norm (sh_n (5 * k) (hsh k hk) hlt) ?_
  refine Ev_const rfl ?_
  refine Ev_iand rfl ?_
  refine Ev_norm (show _ = nI (nm.getD k 0) by
  rw [show (31 : Int32) = nI 31 from rfl, nI_and, show (31 : Nat) = 2 ^ 5 - 1 by decide, Nat.and_two_pow_sub_one_eq_mod, Nat.pow_mul]
  rw [show (2 : Nat) ^ 5 = 32 by decide, n5_at nm k h26]) ?_
  exact Ev_ireturn rfl rfl rfl rfl ⟨rfl, rfl, rfl⟩
theorem ml_1 {d : Nat} {ρ : Rf} {σ : St} {a b c : Int32} {v : Int64} {nm : List Nat} {Q : Po} (h1 : ∀ c ∈ nm, 1 ≤ c ∧ c ≤ 26) (h6 : nm.length ≤ 6)
    (hQ : ∀ z, Ev l X d 221 88 [.ref 326, .int a, .int b, .int c, .long v, .float 0, .int (nI nm.length), .long z, .float 0] [] 402 402 402 ρ σ Q) :
    ∀ (m n : Nat), m + n = nm.length → Ev l X d 221 67 [.ref 326, .int a, .int b, .int c, .long v, .float 0, .int (nI n), .long (lN (g27 nm m)), .float 0] [] 402 402 402 ρ σ Q := by
  have h26 : ∀ c ∈ nm, c ≤ 26 := fun c hc => (h1 c hc).2
  intro m
  induction m with
  | zero =>
    intro n hn
    have hn : n = nm.length := by omega
    subst hn
    refine Ev_lload rfl rfl ?_
    refine Ev_constL rfl ?_
    refine Ev_lcmp rfl ?_
    refine Ev_if_le rfl (fun h71 => ?_) (fun h71 => absurd (by decide : lg_cmp (lN 0) 0 ≤ 0) h71)
    exact hQ _
  | succ m ih =>
    intro n hn
    have hlt : g27 nm (m + 1) < 2 ^ 31 := Nat.lt_of_lt_of_le (g27_lt h26 _ (by omega)) (Nat.le_trans (Nat.pow_le_pow_right (by decide) (show m + 1 ≤ 6 by omega)) (by decide))
    have hc : 1 ≤ nm.getD m 0 ∧ nm.getD m 0 ≤ 26 := by
      rw [List.getD_eq_getElem?_getD, List.getElem?_eq_getElem (by omega)]
      exact h1 _ (List.getElem_mem _)
    have hs := g27_s (l := nm) (m := m) (by omega)
    refine Ev_lload rfl rfl ?_
    refine Ev_constL rfl ?_
    refine Ev_lcmp rfl ?_
    refine Ev_if_le rfl (fun h71 => absurd h71 (by rw [lc_le, Int64.lt_iff_toInt_lt, lN_T hlt]; show ¬ ¬ (0 : Int) < _; omega)) (fun h71 => ?_)
    refine Ev_iincE rfl rfl (nI_1 n) ?_
    refine Ev_lload rfl rfl ?_
    refine Ev_constL rfl ?_
    refine Ev_ldiv rfl (by decide : ¬ (27 : Int64) = 0) ?_
    refine Ev_normL (show _ = lN (g27 nm m) by rw [show (27 : Int64) = lN 27 from rfl, pk_lDiv (by omega) (by decide) (by decide), hs, show (27 * g27 nm m + nm.getD m 0) / 27 = g27 nm m by omega]) ?_
    refine Ev_lstore rfl ?_
    refine Ev_goto rfl ?_
    exact ih (n + 1) (by omega)
theorem ml_2 {d k : Nat} {ρ : Rf} {σ : St} {a b c n : Int32} {w : Value} {nm : List Nat} (h1 : ∀ c ∈ nm, 1 ≤ c ∧ c ≤ 26) (h6 : nm.length ≤ 6) (hk : k < nm.length) :
    ∀ (m q : Nat), q = k + m → q < nm.length → Ev l X d 221 102 [.ref 326, .int a, .int b, .int (nI k), .long (lN (g27 nm (q + 1))), .float 0, .int n, .int (nI q), .float 0] [] 402 402 402 ρ σ (Rs (.int (nI (nm.getD k 0))) ρ σ) := by
  have h26 : ∀ c ∈ nm, c ≤ 26 := fun c hc => (h1 c hc).2
  have hlt : ∀ m, m ≤ nm.length → g27 nm m < 2 ^ 31 := fun m hm => Nat.lt_of_lt_of_le (g27_lt h26 _ hm) (Nat.le_trans (Nat.pow_le_pow_right (by decide) (show m ≤ 6 by omega)) (by decide))
  have hc : ∀ m, m < nm.length → 1 ≤ nm.getD m 0 ∧ nm.getD m 0 ≤ 26 := fun m hm => by
    rw [List.getD_eq_getElem?_getD, List.getElem?_eq_getElem hm]
    exact h1 _ (List.getElem_mem _)
  intro m
  induction m with
  | zero =>
    intro q hq hql
    have hq : q = k := by omega
    subst hq
    have hl := hlt (q + 1) (by omega)
    have hs := g27_s (l := nm) (m := q) hql
    have hcq := hc q hql
    refine Ev_iload rfl rfl ?_
    refine Ev_iload rfl rfl ?_
    refine Ev_icmp_le rfl (fun h105 => ?_) (fun h105 => absurd (nI_le (Nat.le_refl _) (by omega)) h105)
    refine Ev_lload rfl rfl ?_
    refine Ev_constL rfl ?_
    refine Ev_lrem rfl (by decide : ¬ (27 : Int64) = 0) ?_
    refine Ev_normL (show _ = lN (nm.getD q 0) by rw [show (27 : Int64) = lN 27 from rfl, pk_lRem (by omega) (by decide) (by decide), hs, show (27 * g27 nm q + nm.getD q 0) % 27 = nm.getD q 0 by omega]) ?_
    refine Ev_l2i rfl ?_
    refine Ev_norm (lN_i _) ?_
    exact Ev_ireturn rfl rfl rfl rfl ⟨rfl, rfl, rfl⟩
  | succ m ih =>
    intro q hq hql
    obtain ⟨p, rfl⟩ : ∃ p, q = p + 1 := ⟨q - 1, by omega⟩
    have hl := hlt (p + 1 + 1) (by omega)
    have hs := g27_s (l := nm) (m := p + 1) hql
    have hcq := hc (p + 1) hql
    refine Ev_iload rfl rfl ?_
    refine Ev_iload rfl rfl ?_
    refine Ev_icmp_le rfl (fun h105 => absurd h105 (nI_ge (by omega) (by omega))) (fun h105 => ?_)
    refine Ev_lload rfl rfl ?_
    refine Ev_constL rfl ?_
    refine Ev_ldiv rfl (by decide : ¬ (27 : Int64) = 0) ?_
    refine Ev_normL (show _ = lN (g27 nm (p + 1)) by rw [show (27 : Int64) = lN 27 from rfl, pk_lDiv (by omega) (by decide) (by decide), hs, show (27 * g27 nm (p + 1) + nm.getD (p + 1) 0) / 27 = g27 nm (p + 1) by omega]) ?_
    refine Ev_lstore rfl ?_
    refine Ev_iincE rfl rfl (show _ = nI p from (Int32.sub_eq_add_neg _ _).symm.trans (nI_pred _)) ?_
    refine Ev_goto rfl ?_
    exact ih p (by omega) (by omega)
/-- the letters of a name that the reference holds -/
theorem ml_all {d k : Nat} {ρ : Rf} {σ : St} {a b : Int32} {nm : List Nat} (h1 : ∀ c ∈ nm, 1 ≤ c ∧ c ≤ 26) (h6 : nm.length ≤ 6) (hk : k < 6) {w : List Value} (hw : w = [.float 0]) :
    Ev l X d 221 63 [.ref 326, .int a, .int b, .int (nI k), .long (lN (n27 0 nm)), .float 0, .int 0, .float 0, .float 0] [] 402 402 402 ρ σ (Rs (.int (nI (nm.getD k 0))) ρ σ) := by
  have e : n27 0 nm = g27 nm nm.length := by unfold g27; rw [List.take_length]
  rw [e]
  refine Ev_lload rfl rfl ?_
  refine Ev_lstore rfl ?_
  refine ml_1 h1 h6 (fun z => ?_) nm.length 0 (by omega)
  by_cases hkn : k < nm.length
  · refine Ev_iload rfl rfl ?_
    refine Ev_iload rfl rfl ?_
    refine Ev_icmp_lt rfl (fun h91 => ?_) (fun h91 => absurd (nI_lt hkn (by omega)) h91)
    refine Ev_iload rfl rfl ?_
    refine Ev_const rfl ?_
    refine Ev_isub rfl ?_
    refine Ev_norm (pk_sub (a := nm.length) (b := 1) (by omega) : _ = nI (nm.length - 1)) ?_
    refine Ev_istore rfl ?_
    have := ml_2 (l := l) (X := X) (d := d) (ρ := ρ) (σ := σ) (a := a) (b := b) (c := 0) (n := nI nm.length) (w := .float 0) h1 h6 hkn (nm.length - 1 - k) (nm.length - 1) (by omega) (by omega)
    rw [show nm.length - 1 + 1 = nm.length by omega] at this
    exact this
  · refine Ev_iload rfl rfl ?_
    refine Ev_iload rfl rfl ?_
    refine Ev_icmp_lt rfl (fun h91 => absurd h91 (nI_nlt (by omega) (by omega))) (fun h91 => ?_)
    refine Ev_const rfl ?_
    exact Ev_ireturn rfl rfl rfl rfl ⟨by rw [List.getD_eq_getElem?_getD, List.getElem?_eq_none (by omega)]; rfl, rfl, rfl⟩
theorem op_letter (a b k : Int32) : OpI l X InvA 111 221 [.int a, .int b, .int k] := by
  refine op_of (fun A q ρ σ hA hC hρ => ?_)
  have hW := hA.1.1
  have n8 := hW.1
  have n6 := hW.2.1
  have e0 : (0 : Int32).toInt = 0 := rfl
  have e6 : (6 : Int32).toInt = 6 := rfl
  have hnI := hA.1.2.2.2.2.2.1
  have hnB := hA.1.2.2.2.2.2.2
  by_cases h : (hasF 2 a && (hasF (if a = 0 then ni (aB A) else nb (aB A)) b && hasF 6 k)) = true
  · obtain ⟨ha, hbk⟩ := Bool.and_eq_true_iff.mp h
    obtain ⟨hb, hk⟩ := Bool.and_eq_true_iff.mp hbk
    obtain ⟨z, hz, rfl⟩ := hasF_of ha
    obtain ⟨j, hj, rfl⟩ := hasF_of hk
    rcases (by omega : z = 0 ∨ z = 1) with rfl | rfl
    · rw [if_pos (show nI 0 = 0 from rfl)] at hb
      obtain ⟨i, hi, rfl⟩ := hasF_of hb
      have hnm := hnI i hi
      refine ⟨nI ((nmI (aB A) i).getD j 0), A, hA, ?_, fun ρ σ hM => ?_⟩
      · refine T_of rfl ?_
        refine Ev_iload rfl rfl ?_
        refine Ev_if_lt rfl (fun h1 => absurd h1 (nI_pos (by omega))) (fun h1 => ?_)
        refine Ev_iload rfl rfl ?_
        refine Ev_const rfl ?_
        refine Ev_icmp_lt rfl (fun h7 => ?_) (fun h7 => absurd (nI_lt (b := 6) hj (by decide)) h7)
        refine Ev_iload rfl rfl ?_
        refine Ev_if_ne rfl (fun h13 => absurd rfl h13) (fun h13 => ?_)
        refine Ev_aload rfl rfl rfl ?_
        refine Ev_iload rfl rfl ?_
        refine Ev_callV rfl rfl rfl rfl rfl (same_n 402) ((t_hasX _ _ hC.1.1 hC.2.1 hW).1) ?_
        rintro v18 ρ18 σ18 ⟨rfl, e18, g18⟩
        obtain rfl := e18.symm
        obtain rfl := g18.symm
        refine Ev_if_eq rfl (fun h21 => absurd h21 (by rw [hb]; decide)) (fun h21 => ?_)
        refine Ev_aload rfl rfl rfl ?_
        refine Ev_getR rfl (by first | rfl | assumption) hC.1.1 ?_
        refine Ev_getR rfl (by rcases hC.2.1.2.1 with rfl | rfl <;> rfl) (by rcases hC.2.1.2.1 with rfl | rfl <;> exact hρ _ _ _ rfl : _ = some (q + 1)) ?_
        refine Ev_iload rfl rfl ?_
        refine Ev_iald rfl (by rcases hC.2.1.2.1 with rfl | rfl <;> rfl) (by rcases hC.2.1.2.1 with rfl | rfl <;> exact vp_in_nI (n := i) (show i < 8 by omega) (by decide)) ?_
        refine Ev_norm (by rw [nI_clamp (by omega)]; exact (hC.2.2.1.1 i hi).1 : _ = nI (n5 (nmI (aB A) i))) ?_
        refine Ev_iload rfl rfl ?_
        refine Ev_callS rfl rfl rfl rfl (same_n 402) (t_letterOf _ (fun c hc => (hnm.2.2 c hc).2) hnm.1 hj) ?_
        rintro v34 ρ34 σ34 ⟨rfl, e34, g34⟩
        obtain rfl := e34.symm
        obtain rfl := g34.symm
        exact Ev_ireturn rfl rfl rfl rfl ⟨rfl, hC.same⟩
      · have hρ := hM.1
        refine T_of rfl ?_
        refine Ev_iload rfl rfl ?_
        refine Ev_i2l rfl ?_
        refine Ev_constL rfl ?_
        refine Ev_constL rfl ?_
        refine Ev_callS rfl rfl rfl rfl (same_n 402) (m_isIn _ _ _ _) ?_
        rintro v4 ρ4 σ4 ⟨rfl, e4, g4⟩
        obtain rfl := e4.symm
        obtain rfl := g4.symm
        refine Ev_if_eq rfl (fun h7 => absurd h7 (by decide)) (fun h7 => ?_)
        refine Ev_iload rfl rfl ?_
        refine Ev_i2l rfl ?_
        refine Ev_constL rfl ?_
        refine Ev_aload rfl rfl rfl ?_
        refine Ev_getR rfl (by first | rfl | assumption) (hρ _ _ _ rfl) ?_
        refine Ev_const rfl ?_
        refine Ev_iload rfl rfl ?_
        refine Ev_iadd rfl ?_
        refine Ev_norm (nI_add 5 0 : _ = nI 5) ?_
        refine Ev_iald rfl (by first | rfl | assumption) (vp_in_nI (n := 5) (by decide) (by decide)) ?_
        refine Ev_norm (show _ = nI (ni (aB A)) from hM.2.1.1 0 (by decide)) ?_
        refine Ev_const rfl ?_
        refine Ev_isub rfl ?_
        refine Ev_i2l rfl ?_
        refine Ev_callS rfl rfl rfl rfl (same_n 402) (m_isIn _ _ _ _) ?_
        rintro v24 ρ24 σ24 ⟨rfl, e24, g24⟩
        obtain rfl := e24.symm
        obtain rfl := g24.symm
        refine Ev_if_eq rfl (fun h27 => absurd h27 (by rw [isIn_n (by omega), l_of, ← hasF_eq, hb]; decide)) (fun h27 => ?_)
        refine Ev_iload rfl rfl ?_
        refine Ev_i2l rfl ?_
        refine Ev_constL rfl ?_
        refine Ev_constL rfl ?_
        refine Ev_callS rfl rfl rfl rfl (same_n 402) (m_isIn _ _ _ _) ?_
        rintro v36 ρ36 σ36 ⟨rfl, e36, g36⟩
        obtain rfl := e36.symm
        obtain rfl := g36.symm
        refine Ev_if_ne rfl (fun h39 => ?_) (fun h39 => absurd (by rw [isIn_lit (n := 6) rfl, hk]; decide) h39)
        refine Ev_aload rfl rfl rfl ?_
        refine Ev_getR rfl (by first | rfl | assumption) (hρ _ _ _ rfl) ?_
        refine Ev_const rfl ?_
        refine Ev_const rfl ?_
        refine Ev_iload rfl rfl ?_
        refine Ev_imul rfl ?_
        refine Ev_norm (pk_mul 8 0 : _ = nI 0) ?_
        refine Ev_iadd rfl ?_
        refine Ev_norm (nI_add 16 0 : _ = nI 16) ?_
        refine Ev_iload rfl rfl ?_
        refine Ev_iadd rfl ?_
        refine Ev_norm (nI_add 16 i) ?_
        refine Ev_lald rfl (by first | rfl | assumption) (vp_in_nI (n := 16 + i) (show 16 + i < 32 by omega) (by decide)) ?_
        refine Ev_normL (show _ = lN (n27 0 (nmI (aB A) i)) by rw [nI_clamp (by omega)]; exact hM.2.1.2.2.2.1 i hi) ?_
        refine Ev_lstore rfl ?_
        refine Ev_const rfl ?_
        refine Ev_istore rfl ?_
        refine Ev.mono (ml_all (fun c hc => hnm.2.2 c hc) hnm.1 hj (w := [.float 0]) rfl) (fun v ρ' σ' hq => ?_)
        obtain ⟨rfl, rfl, rfl⟩ := hq
        exact ⟨rfl, rfl, hM.same⟩
    · rw [if_neg (by decide)] at hb
      obtain ⟨i, hi, rfl⟩ := hasF_of hb
      have hnm := hnB i hi
      refine ⟨nI ((nmB (aB A) i).getD j 0), A, hA, ?_, fun ρ σ hM => ?_⟩
      · refine T_of rfl ?_
        refine Ev_iload rfl rfl ?_
        refine Ev_if_lt rfl (fun h1 => absurd h1 (nI_pos (by omega))) (fun h1 => ?_)
        refine Ev_iload rfl rfl ?_
        refine Ev_const rfl ?_
        refine Ev_icmp_lt rfl (fun h7 => ?_) (fun h7 => absurd (nI_lt (b := 6) hj (by decide)) h7)
        refine Ev_iload rfl rfl ?_
        refine Ev_if_ne rfl (fun h13 => ?_) (fun h13 => absurd (by decide) h13)
        refine Ev_iload rfl rfl ?_
        refine Ev_const rfl ?_
        refine Ev_icmp_ne rfl (fun h40 => absurd rfl h40) (fun h40 => ?_)
        refine Ev_aload rfl rfl rfl ?_
        refine Ev_iload rfl rfl ?_
        refine Ev_callV rfl rfl rfl rfl rfl (same_n 402) ((t_hasX _ _ hC.1.1 hC.2.1 hW).2) ?_
        rintro v45 ρ45 σ45 ⟨rfl, e45, g45⟩
        obtain rfl := e45.symm
        obtain rfl := g45.symm
        refine Ev_if_eq rfl (fun h48 => absurd h48 (by rw [hb]; decide)) (fun h48 => ?_)
        refine Ev_aload rfl rfl rfl ?_
        refine Ev_getR rfl (by first | rfl | assumption) hC.1.1 ?_
        refine Ev_getR rfl (by rcases hC.2.1.2.1 with rfl | rfl <;> rfl) (by rcases hC.2.1.2.1 with rfl | rfl <;> exact hρ _ _ _ rfl : _ = some (q + 5)) ?_
        refine Ev_iload rfl rfl ?_
        refine Ev_iald rfl (by rcases hC.2.1.2.1 with rfl | rfl <;> rfl) (by rcases hC.2.1.2.1 with rfl | rfl <;> exact vp_in_nI (n := i) (show i < 6 by omega) (by decide)) ?_
        refine Ev_norm (by rw [nI_clamp (by omega)]; exact hC.2.2.1.2 i hi : _ = nI (n5 (nmB (aB A) i))) ?_
        refine Ev_iload rfl rfl ?_
        refine Ev_callS rfl rfl rfl rfl (same_n 402) (t_letterOf _ (fun c hc => (hnm.2.2 c hc).2) hnm.1 hj) ?_
        rintro v61 ρ61 σ61 ⟨rfl, e61, g61⟩
        obtain rfl := e61.symm
        obtain rfl := g61.symm
        exact Ev_ireturn rfl rfl rfl rfl ⟨rfl, hC.same⟩
      · have hρ := hM.1
        refine T_of rfl ?_
        refine Ev_iload rfl rfl ?_
        refine Ev_i2l rfl ?_
        refine Ev_constL rfl ?_
        refine Ev_constL rfl ?_
        refine Ev_callS rfl rfl rfl rfl (same_n 402) (m_isIn _ _ _ _) ?_
        rintro v4 ρ4 σ4 ⟨rfl, e4, g4⟩
        obtain rfl := e4.symm
        obtain rfl := g4.symm
        refine Ev_if_eq rfl (fun h7 => absurd h7 (by decide)) (fun h7 => ?_)
        refine Ev_iload rfl rfl ?_
        refine Ev_i2l rfl ?_
        refine Ev_constL rfl ?_
        refine Ev_aload rfl rfl rfl ?_
        refine Ev_getR rfl (by first | rfl | assumption) (hρ _ _ _ rfl) ?_
        refine Ev_const rfl ?_
        refine Ev_iload rfl rfl ?_
        refine Ev_iadd rfl ?_
        refine Ev_norm (nI_add 5 1 : _ = nI 6) ?_
        refine Ev_iald rfl (by first | rfl | assumption) (vp_in_nI (n := 6) (by decide) (by decide)) ?_
        refine Ev_norm (show _ = nI (nb (aB A)) from hM.2.1.1 1 (by decide)) ?_
        refine Ev_const rfl ?_
        refine Ev_isub rfl ?_
        refine Ev_i2l rfl ?_
        refine Ev_callS rfl rfl rfl rfl (same_n 402) (m_isIn _ _ _ _) ?_
        rintro v24 ρ24 σ24 ⟨rfl, e24, g24⟩
        obtain rfl := e24.symm
        obtain rfl := g24.symm
        refine Ev_if_eq rfl (fun h27 => absurd h27 (by rw [isIn_n (by omega), l_of, ← hasF_eq, hb]; decide)) (fun h27 => ?_)
        refine Ev_iload rfl rfl ?_
        refine Ev_i2l rfl ?_
        refine Ev_constL rfl ?_
        refine Ev_constL rfl ?_
        refine Ev_callS rfl rfl rfl rfl (same_n 402) (m_isIn _ _ _ _) ?_
        rintro v36 ρ36 σ36 ⟨rfl, e36, g36⟩
        obtain rfl := e36.symm
        obtain rfl := g36.symm
        refine Ev_if_ne rfl (fun h39 => ?_) (fun h39 => absurd (by rw [isIn_lit (n := 6) rfl, hk]; decide) h39)
        refine Ev_aload rfl rfl rfl ?_
        refine Ev_getR rfl (by first | rfl | assumption) (hρ _ _ _ rfl) ?_
        refine Ev_const rfl ?_
        refine Ev_const rfl ?_
        refine Ev_iload rfl rfl ?_
        refine Ev_imul rfl ?_
        refine Ev_norm (pk_mul 8 1 : _ = nI 8) ?_
        refine Ev_iadd rfl ?_
        refine Ev_norm (nI_add 16 8 : _ = nI 24) ?_
        refine Ev_iload rfl rfl ?_
        refine Ev_iadd rfl ?_
        refine Ev_norm (nI_add 24 i) ?_
        refine Ev_lald rfl (by first | rfl | assumption) (vp_in_nI (n := 24 + i) (show 24 + i < 32 by omega) (by decide)) ?_
        refine Ev_normL (show _ = lN (n27 0 (nmB (aB A) i)) by rw [nI_clamp (by omega)]; exact hM.2.1.2.2.2.2.1 i hi) ?_
        refine Ev_lstore rfl ?_
        refine Ev_const rfl ?_
        refine Ev_istore rfl ?_
        refine Ev.mono (ml_all (fun c hc => hnm.2.2 c hc) hnm.1 hj (w := [.float 0]) rfl) (fun v ρ' σ' hq => ?_)
        obtain ⟨rfl, rfl, rfl⟩ := hq
        exact ⟨rfl, rfl, hM.same⟩
  · refine ⟨-1, A, hA, ?_, fun ρ σ hM => ?_⟩
    · refine T_of rfl ?_
      refine Ev_iload rfl rfl ?_
      refine Ev_if_lt rfl (fun h1 => ?_) (fun h1 => ?_)
      · refine Ev_const rfl ?_
        exact Ev_ireturn rfl rfl rfl rfl ⟨rfl, hC.same⟩
      · refine Ev_iload rfl rfl ?_
        refine Ev_const rfl ?_
        refine Ev_icmp_lt rfl (fun h7 => ?_) (fun h7 => ?_)
        · have hk : hasF 6 k = true := decide_eq_true (by rw [Int32.lt_iff_toInt_lt] at h1 h7; omega)
          refine Ev_iload rfl rfl ?_
          refine Ev_if_ne rfl (fun h13 => ?_) (fun h13 => ?_)
          · refine Ev_iload rfl rfl ?_
            refine Ev_const rfl ?_
            refine Ev_icmp_ne rfl (fun h40 => ?_) (fun h40 => ?_)
            · refine Ev_const rfl ?_
              exact Ev_ireturn rfl rfl rfl rfl ⟨rfl, hC.same⟩
            · refine Ev_aload rfl rfl rfl ?_
              refine Ev_iload rfl rfl ?_
              refine Ev_callV rfl rfl rfl rfl rfl (same_n 402) ((t_hasX _ _ hC.1.1 hC.2.1 hW).2) ?_
              rintro v45 ρ45 σ45 ⟨rfl, e45, g45⟩
              obtain rfl := e45.symm
              obtain rfl := g45.symm
              refine Ev_if_eq rfl (fun h48 => ?_) (fun h48 => absurd (by have ha : a = 1 := Decidable.not_not.mp h40; rw [hk, if_neg (by rw [ha]; decide), rt_of h48, ha]; rfl) h)
              refine Ev_const rfl ?_
              exact Ev_ireturn rfl rfl rfl rfl ⟨rfl, hC.same⟩
          · refine Ev_aload rfl rfl rfl ?_
            refine Ev_iload rfl rfl ?_
            refine Ev_callV rfl rfl rfl rfl rfl (same_n 402) ((t_hasX _ _ hC.1.1 hC.2.1 hW).1) ?_
            rintro v18 ρ18 σ18 ⟨rfl, e18, g18⟩
            obtain rfl := e18.symm
            obtain rfl := g18.symm
            refine Ev_if_eq rfl (fun h21 => ?_) (fun h21 => absurd (by rw [hk, if_pos (Decidable.not_not.mp h13), rt_of h21, show a = 0 from Decidable.not_not.mp h13]; rfl) h)
            refine Ev_iload rfl rfl ?_
            refine Ev_const rfl ?_
            refine Ev_icmp_ne rfl (fun h40 => ?_) (fun h40 => ?_)
            · refine Ev_const rfl ?_
              exact Ev_ireturn rfl rfl rfl rfl ⟨rfl, hC.same⟩
            · refine Ev_aload rfl rfl rfl ?_
              refine Ev_iload rfl rfl ?_
              refine Ev_callV rfl rfl rfl rfl rfl (same_n 402) ((t_hasX _ _ hC.1.1 hC.2.1 hW).2) ?_
              rintro v45 ρ45 σ45 ⟨rfl, e45, g45⟩
              obtain rfl := e45.symm
              obtain rfl := g45.symm
              refine Ev_if_eq rfl (fun h48 => ?_) (fun h48 => absurd (by have ha : a = 1 := Decidable.not_not.mp h40; rw [hk, if_neg (by rw [ha]; decide), rt_of h48, ha]; rfl) h)
              refine Ev_const rfl ?_
              exact Ev_ireturn rfl rfl rfl rfl ⟨rfl, hC.same⟩
        · refine Ev_const rfl ?_
          exact Ev_ireturn rfl rfl rfl rfl ⟨rfl, hC.same⟩
    · have hρ := hM.1
      refine T_of rfl ?_
      refine Ev_iload rfl rfl ?_
      refine Ev_i2l rfl ?_
      refine Ev_constL rfl ?_
      refine Ev_constL rfl ?_
      refine Ev_callS rfl rfl rfl rfl (same_n 402) (m_isIn _ _ _ _) ?_
      rintro v4 ρ4 σ4 ⟨rfl, e4, g4⟩
      obtain rfl := e4.symm
      obtain rfl := g4.symm
      refine Ev_if_eq rfl (fun h7 => ?_) (fun h7 => ?_)
      · refine Ev_const rfl ?_
        exact Ev_ireturn rfl rfl rfl rfl ⟨rfl, rfl, hM.same⟩
      · refine Ev_iload rfl rfl ?_
        refine Ev_i2l rfl ?_
        refine Ev_constL rfl ?_
        refine Ev_aload rfl rfl rfl ?_
        obtain ⟨z, hz, rfl⟩ := hasF_of (show hasF 2 a = true from by have := rt_of h7; rwa [isIn_lit (n := 2) rfl] at this)
        refine Ev_getR rfl (by first | rfl | assumption) (hρ _ _ _ rfl) ?_
        refine Ev_const rfl ?_
        refine Ev_iload rfl rfl ?_
        refine Ev_iadd rfl ?_
        refine Ev_norm (nI_add 5 z) ?_
        refine Ev_iald rfl (by first | rfl | assumption) (vp_in_nI (n := 5 + z) (show 5 + z < 10 by omega) (by decide)) ?_
        refine Ev_norm (show _ = nI (if nI z = 0 then ni (aB A) else nb (aB A)) by
        rw [nI_clamp (by omega)]
        rcases (by omega : z = 0 ∨ z = 1) with rfl | rfl
        · rw [if_pos (show nI 0 = 0 from rfl)]; exact hM.2.1.1 0 (by decide)
        · rw [if_neg (by decide)]; exact hM.2.1.1 1 (by decide)) ?_
        refine Ev_const rfl ?_
        refine Ev_isub rfl ?_
        refine Ev_i2l rfl ?_
        refine Ev_callS rfl rfl rfl rfl (same_n 402) (m_isIn _ _ _ _) ?_
        rintro v24 ρ24 σ24 ⟨rfl, e24, g24⟩
        obtain rfl := e24.symm
        obtain rfl := g24.symm
        refine Ev_if_eq rfl (fun h27 => ?_) (fun h27 => ?_)
        · refine Ev_const rfl ?_
          exact Ev_ireturn rfl rfl rfl rfl ⟨rfl, rfl, hM.same⟩
        · refine Ev_iload rfl rfl ?_
          refine Ev_i2l rfl ?_
          refine Ev_constL rfl ?_
          refine Ev_constL rfl ?_
          refine Ev_callS rfl rfl rfl rfl (same_n 402) (m_isIn _ _ _ _) ?_
          rintro v36 ρ36 σ36 ⟨rfl, e36, g36⟩
          obtain rfl := e36.symm
          obtain rfl := g36.symm
          refine Ev_if_ne rfl (fun h39 => absurd (Bool.and_eq_true_iff.mpr ⟨hasF_nI hz (by decide), Bool.and_eq_true_iff.mpr ⟨by have := rt_of h27; rwa [isIn_n (by split <;> omega), l_of] at this, by have := rt_of h39; rwa [isIn_lit (n := 6) rfl] at this⟩⟩) h) (fun h39 => ?_)
          refine Ev_const rfl ?_
          exact Ev_ireturn rfl rfl rfl rfl ⟨rfl, rfl, hM.same⟩
end S65
