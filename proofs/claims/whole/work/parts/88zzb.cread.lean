/-! A beach read by the class: what is told so far, names. -/
/-- a beach's cells: it, its arrays, its orders -/
def BoA (ρ : Rf) (q r f n : Nat) : Prop := isA 402 (q + r) 0 = true ∧ (shp (q + r)).2 = n ∧ ρ q f = some (q + r)
def BoF (ρ : Rf) (q : Nat) : Prop := isO 402 q 0 = true ∧ (BoA ρ q 1 0 8 ∧ BoA ρ q 2 1 8 ∧ BoA ρ q 3 2 8 ∧ BoA ρ q 4 3 8) ∧ (BoA ρ q 5 4 6 ∧ BoA ρ q 6 5 6 ∧ BoA ρ q 7 6 6) ∧ (BoA ρ q 8 7 16 ∧ BoA ρ q 9 8 16) ∧ ((isA 402 (q + 12) 0 = true ∧ (shp (q + 12)).2 = 5 ∧ ρ (q + 10) 1 = some (q + 12)) ∧ (isA 402 (q + 13) 0 = true ∧ (shp (q + 13)).2 = 5 ∧ ρ (q + 10) 2 = some (q + 13))) ∧ ρ q 9 = some (q + 10) ∧ isO 402 (q + 10) 5 = true
theorem bo {ρ : Rf} {q : Nat} (hq : q = 2 ∨ q = 17) (hρ : RF ρ) : BoF ρ q := by
  rcases hq with rfl | rfl
  · exact ⟨rfl, ⟨⟨rfl, rfl, hρ _ _ _ rfl⟩, ⟨rfl, rfl, hρ _ _ _ rfl⟩, ⟨rfl, rfl, hρ _ _ _ rfl⟩, ⟨rfl, rfl, hρ _ _ _ rfl⟩⟩, ⟨⟨rfl, rfl, hρ _ _ _ rfl⟩, ⟨rfl, rfl, hρ _ _ _ rfl⟩, ⟨rfl, rfl, hρ _ _ _ rfl⟩⟩, ⟨⟨rfl, rfl, hρ _ _ _ rfl⟩, ⟨rfl, rfl, hρ _ _ _ rfl⟩⟩, ⟨⟨rfl, rfl, hρ _ _ _ rfl⟩, ⟨rfl, rfl, hρ _ _ _ rfl⟩⟩, hρ _ _ _ rfl, rfl⟩
  · exact ⟨rfl, ⟨⟨rfl, rfl, hρ _ _ _ rfl⟩, ⟨rfl, rfl, hρ _ _ _ rfl⟩, ⟨rfl, rfl, hρ _ _ _ rfl⟩, ⟨rfl, rfl, hρ _ _ _ rfl⟩⟩, ⟨⟨rfl, rfl, hρ _ _ _ rfl⟩, ⟨rfl, rfl, hρ _ _ _ rfl⟩, ⟨rfl, rfl, hρ _ _ _ rfl⟩⟩, ⟨⟨rfl, rfl, hρ _ _ _ rfl⟩, ⟨rfl, rfl, hρ _ _ _ rfl⟩⟩, ⟨⟨rfl, rfl, hρ _ _ _ rfl⟩, ⟨rfl, rfl, hρ _ _ _ rfl⟩⟩, hρ _ _ _ rfl, rfl⟩
def CNi (σ : St) (q : Nat) (B : Bh) : Prop := ∀ i, i < ni B → σ.1 (q + 1) i = nI (n5 (nmI B i)) ∧ σ.1 (q + 2) i = nI (dep B i) ∧ σ.1 (q + 3) i = nI (nee B i)
def CNb (σ : St) (q : Nat) (B : Bh) : Prop := ∀ b, b < nb B → σ.1 (q + 5) b = nI (n5 (nmB B b)) ∧ σ.1 (q + 6) b = nI (lun B b) ∧ σ.1 (q + 7) b = nI (wit B b)
def CNp (σ : St) (q : Nat) (B : Bh) : Prop := ∀ k, k < np B → σ.1 (q + 8) k = nI (plb B k) ∧ σ.1 (q + 9) k = nI (pli B k)
def CNf (σ : St) (q : Nat) (B : Bh) : Prop := ∀ k, k < 4 → match frm B k with
  | none => σ.1 (q + 12) k = -1
  | some cs => ∃ a b, σ.1 (q + 12) k = nI a ∧ σ.1 (q + 13) k = nI b ∧ a + cs.length = b ∧ b ≤ flen B ∧ ∀ j, j < cs.length → σ.1 (q + 11) (a + j) = nI (cc (cs.getD j 0))
/-- what is told so far -/
def CNew (σ : St) (q : Nat) (B : Bh) : Prop := CNum σ q B ∧ CNi σ q B ∧ CNb σ q B ∧ CNp σ q B ∧ CNf σ q B ∧ σ.1 (q + 10) 4 = nI (flen B)
/-- what holds of its counts, with a fault too -/
def CRo (σ : St) (q : Nat) : Prop := (∃ n, n ≤ 8 ∧ σ.1 q 10 = nI n) ∧ (∃ n, n ≤ 6 ∧ σ.1 q 12 = nI n) ∧ (∃ n, n ≤ 16 ∧ σ.1 q 13 = nI n) ∧ ∃ n, n ≤ 1620 ∧ σ.1 (q + 10) 4 = nI n
theorem CNew.ro {σ : St} {q : Nat} {B : Bh} (H : CNew σ q B) (hB : WfB B) (hf : flen B ≤ 1620) : CRo σ q := by
  obtain ⟨⟨h1, -, h3, h4, -⟩, -, -, -, -, h6⟩ := H
  exact ⟨⟨_, hB.1.1, h1⟩, ⟨_, hB.1.2.1, h3⟩, ⟨_, hB.1.2.2.2.1, h4⟩, ⟨_, hf, h6⟩⟩
/-- cells that a beach's reading touches -/
def cBq (q k : Nat) : Bool := Nat.ble q k && Nat.ble k (q + 14)
def cRb (q k j : Nat) : Bool := cTn k j || (Nat.beq k 318 && Nat.beq j 2) || cBq q k
theorem cBq_f {q k : Nat} (h : cBq q k = false) : k < q ∨ q + 14 < k := by
  unfold cBq at h
  by_cases h1 : q ≤ k
  · by_cases h2 : k ≤ q + 14
    · rw [Nat.ble_eq.mpr h1, Nat.ble_eq.mpr h2] at h; cases h
    · omega
  · omega
theorem cBq_y {q r : Nat} (h : r ≤ 14) : cBq q (q + r) = true := by
  unfold cBq
  rw [Nat.ble_eq.mpr (show q ≤ q + r by omega), Nat.ble_eq.mpr (show q + r ≤ q + 14 by omega)]; rfl
theorem cRb_f {q k j : Nat} (h : cRb q k j = false) : cTn k j = false ∧ (k = 318 → j ≠ 2) ∧ cBq q k = false := by
  unfold cRb at h
  simp only [Bool.or_eq_false_iff] at h
  refine ⟨h.1.1, fun z1 z2 => ?_, h.2⟩
  rw [z1, z2] at h
  exact absurd h.1.2 (by decide)
theorem cTt_b {q : Nat} {σ σ' : St} (h : CF cTt σ σ') : CF (cRb q) σ σ' := h.wk (fun k j z => cTt_n (cRb_f z).1)
theorem cTn_b {q : Nat} {σ σ' : St} (h : CF cTn σ σ') : CF (cRb q) σ σ' := h.wk (fun k j z => (cRb_f z).1)
theorem cB_b {q : Nat} {σ σ' : St} (h : CF (fun k _ => cBq q k) σ σ') : CF (cRb q) σ σ' := h.wk (fun k j z => (cRb_f z).2.2)
theorem CNew.cf {C : Nat → Nat → Bool} {σ σ' : St} {q : Nat} {B : Bh} (H : CNew σ q B) (hs : CF C σ σ') (hC : ∀ k j, cBq q k = true → C k j = false) : CNew σ' q B := by
  have e : ∀ r j, r ≤ 14 → σ'.1 (q + r) j = σ.1 (q + r) j := fun r j hr => hs.1 _ _ (hC _ _ (cBq_y hr))
  have e0 : ∀ j, σ'.1 q j = σ.1 q j := fun j => e 0 j (by decide)
  obtain ⟨h1, h2, h3, h4, h5, h6⟩ := H
  refine ⟨?_, fun i hi => ?_, fun b hb => ?_, fun k hk => ?_, fun k hk => ?_, by rw [e 10 _ (by decide)]; exact h6⟩
  · unfold CNum; rw [e0, e0, e0, e0, e0]; exact h1
  · rw [e 1 _ (by decide), e 2 _ (by decide), e 3 _ (by decide)]; exact h2 i hi
  · rw [e 5 _ (by decide), e 6 _ (by decide), e 7 _ (by decide)]; exact h3 b hb
  · rw [e 8 _ (by decide), e 9 _ (by decide)]; exact h4 k hk
  · have g := h5 k hk
    cases hf : frm B k with
    | none => rw [hf] at g; simp only at g ⊢; rw [e 12 _ (by decide)]; exact g
    | some cs =>
      rw [hf] at g
      obtain ⟨a, b, g1, g2, g3, g4, g5⟩ := g
      exact ⟨a, b, by rw [e 12 _ (by decide)]; exact g1, by rw [e 13 _ (by decide)]; exact g2, g3, g4, fun j hj => by rw [e 11 _ (by decide)]; exact g5 j hj⟩
theorem cTn_bq {q k j : Nat} (hq : q = 2 ∨ q = 17) (h : cBq q k = true) : cTn k j = false := by
  unfold cBq at h
  rw [Bool.and_eq_true, Nat.ble_eq, Nat.ble_eq] at h
  exact cTn_f (by omega)
theorem CNew.tn {σ σ' : St} {q : Nat} {B : Bh} (hq : q = 2 ∨ q = 17) (H : CNew σ q B) (hs : CF cTn σ σ') : CNew σ' q B := H.cf hs (fun _ _ h => cTn_bq hq h)
theorem CNew.tt {σ σ' : St} {q : Nat} {B : Bh} (hq : q = 2 ∨ q = 17) (H : CNew σ q B) (hs : CF cTt σ σ') : CNew σ' q B := H.cf hs (fun _ _ h => cTt_n (cTn_bq hq h))
theorem tt_tn {σ σ' : St} (h : CF cTt σ σ') : CF cTn σ σ' := h.wk (fun _ _ q => cTt_n q)
/-- letters by numbers, six at most; none with a fault -/
def okM (w : List Nat) : Prop := w.length ≤ 6 ∧ ∀ c, c ∈ w → 1 ≤ c ∧ c ≤ 26
theorem vN_okM {U : Tx} (s : Rdg) : okM (vNm U s) := by
  cases ho : isOk (aNm U s) with
  | true => obtain ⟨h1, _, h3⟩ := vN_ok ho; exact ⟨h1, h3⟩
  | false =>
    have : vNm U s = [] := by unfold vNm; rw [ho]; rfl
    rw [this]
    exact ⟨Nat.zero_le _, fun c hc => by cases hc⟩
theorem n5_31 {w : List Nat} (h : okM w) : n5 w < 2 ^ 31 := by
  have := n5_lt w (fun c hc => (h.2 c hc).2)
  exact Nat.lt_of_lt_of_le this (Nat.le_trans (Nat.pow_le_pow_right (by decide) h.1) (by decide))
theorem n5_nm {a b : List Nat} (ha : okM a) (hb : okM b) : nI (n5 a) = nI (n5 b) ↔ a = b := by
  constructor
  · intro h
    exact n5_inj a b ha.2 hb.2 ((nI_eq (n5_31 ha) (n5_31 hb)).mp h)
  · intro h; rw [h]
theorem okN_M {w : List Nat} (h : okN w) : okM w := ⟨h.1, h.2.2⟩
/-- which one is named, by the class: none, or its number -/
def ixV (n : Nat) (f : Nat → List Nat) (w : List Nat) : Int32 := if fnd n f w < n then nI (fnd n f w) else -1
section S88zzb
variable {l : Launch} {X : Cx} {ρ : Rf} {U : Tx} {q : Nat} {B : Bh}
theorem t_ideaNamed (d : Nat) {σ : St} {w : List Nat} (hq : q = 2 ∨ q = 17) (hρ : RF ρ) (hB : WfB B) (hw : okM w) (H : CNew σ q B) :
    T l X d 2 [.ref q, .int (nI (n5 w))] 402 402 ρ σ (Rs (.int (ixV (ni B) (nmI B) w)) ρ σ) := by
  have h8 := hB.1.1
  obtain ⟨bO, ⟨⟨b1, s1, r1⟩, -⟩, -⟩ := bo hq hρ
  have loop : ∀ (m k : Nat), k + m = ni B → fndF (nmI B) w m k = fnd (ni B) (nmI B) w → Ev l X d 2 2 [.ref q, .int (nI (n5 w)), .int (nI k)] [] 402 402 402 ρ σ (Rs (.int (ixV (ni B) (nmI B) w)) ρ σ) := by
    intro m
    induction m with
    | zero =>
      intro k hm hf
      have hf : k = fnd (ni B) (nmI B) w := hf
      refine Ev_iload rfl rfl ?_
      refine Ev_aload rfl rfl rfl ?_
      refine Ev_getI rfl (by first | rfl | assumption) ?_
      refine Ev_norm H.1.1 ?_
      refine Ev_icmp_ge rfl (fun h7 => ?_) (fun h7 => absurd (nI_le (by omega) (by omega)) h7)
      refine Ev_const rfl ?_
      exact Ev_ireturn rfl rfl rfl rfl ⟨by unfold ixV; rw [if_neg (by omega)], rfl, rfl⟩
    | succ m ih =>
      intro k hm hf
      have hok := hB.2.2.2.2.2.1 k (by omega)
      have hf : (if nmI B k = w then k else fndF (nmI B) w m (k + 1)) = fnd (ni B) (nmI B) w := hf
      refine Ev_iload rfl rfl ?_
      refine Ev_aload rfl rfl rfl ?_
      refine Ev_getI rfl (by first | rfl | assumption) ?_
      refine Ev_norm H.1.1 ?_
      refine Ev_icmp_ge rfl (fun h7 => absurd h7 (nI_ge (by omega) (by omega))) (fun h7 => ?_)
      refine Ev_aload rfl rfl rfl ?_
      refine Ev_getR rfl (by first | rfl | assumption) (by first | exact hρ rfl | assumption) ?_
      refine Ev_iload rfl rfl ?_
      refine Ev_iald rfl (by first | rfl | assumption) (by rw [s1]; exact vp_in_nI (n := k) (show k < 8 by omega) (by decide)) ?_
      refine Ev_norm (by rw [nI_clamp (by omega)]; exact (H.2.1 k (by omega)).1 : _ = nI (n5 (nmI B k))) ?_
      refine Ev_iload rfl rfl ?_
      refine Ev_icmp_ne rfl (fun h17 => ?_) (fun h17 => ?_)
      · refine Ev_iincE rfl rfl (nI_1 k) ?_
        refine Ev_goto rfl ?_
        have hz : ¬ nmI B k = w := fun z => h17 (by rw [z])
        rw [if_neg hz] at hf
        exact ih (k + 1) (by omega) hf
      · refine Ev_iload rfl rfl ?_
        exact Ev_ireturn rfl rfl rfl rfl (by
        have hz : nmI B k = w := (n5_nm (okN_M hok) hw).mp (Decidable.not_not.mp h17)
        rw [if_pos hz] at hf
        exact ⟨by unfold ixV; rw [if_pos (by omega), ← hf], rfl, rfl⟩)
  refine T_of rfl ?_
  refine Ev_const rfl ?_
  refine Ev_istore rfl ?_
  exact loop (ni B) 0 (Nat.zero_add _) rfl
theorem t_batherNamed (d : Nat) {σ : St} {w : List Nat} (hq : q = 2 ∨ q = 17) (hρ : RF ρ) (hB : WfB B) (hw : okM w) (H : CNew σ q B) :
    T l X d 3 [.ref q, .int (nI (n5 w))] 402 402 ρ σ (Rs (.int (ixV (nb B) (nmB B) w)) ρ σ) := by
  have h6 := hB.1.2.1
  obtain ⟨bO, -, ⟨⟨b1, s1, r1⟩, -⟩, -⟩ := bo hq hρ
  have loop : ∀ (m k : Nat), k + m = nb B → fndF (nmB B) w m k = fnd (nb B) (nmB B) w → Ev l X d 3 2 [.ref q, .int (nI (n5 w)), .int (nI k)] [] 402 402 402 ρ σ (Rs (.int (ixV (nb B) (nmB B) w)) ρ σ) := by
    intro m
    induction m with
    | zero =>
      intro k hm hf
      have hf : k = fnd (nb B) (nmB B) w := hf
      refine Ev_iload rfl rfl ?_
      refine Ev_aload rfl rfl rfl ?_
      refine Ev_getI rfl (by first | rfl | assumption) ?_
      refine Ev_norm H.1.2.2.1 ?_
      refine Ev_icmp_ge rfl (fun h7 => ?_) (fun h7 => absurd (nI_le (by omega) (by omega)) h7)
      refine Ev_const rfl ?_
      exact Ev_ireturn rfl rfl rfl rfl ⟨by unfold ixV; rw [if_neg (by omega)], rfl, rfl⟩
    | succ m ih =>
      intro k hm hf
      have hok := hB.2.2.2.2.2.2 k (by omega)
      have hf : (if nmB B k = w then k else fndF (nmB B) w m (k + 1)) = fnd (nb B) (nmB B) w := hf
      refine Ev_iload rfl rfl ?_
      refine Ev_aload rfl rfl rfl ?_
      refine Ev_getI rfl (by first | rfl | assumption) ?_
      refine Ev_norm H.1.2.2.1 ?_
      refine Ev_icmp_ge rfl (fun h7 => absurd h7 (nI_ge (by omega) (by omega))) (fun h7 => ?_)
      refine Ev_aload rfl rfl rfl ?_
      refine Ev_getR rfl (by first | rfl | assumption) (by first | exact hρ rfl | assumption) ?_
      refine Ev_iload rfl rfl ?_
      refine Ev_iald rfl (by first | rfl | assumption) (by rw [s1]; exact vp_in_nI (n := k) (show k < 6 by omega) (by decide)) ?_
      refine Ev_norm (by rw [nI_clamp (by omega)]; exact (H.2.2.1 k (by omega)).1 : _ = nI (n5 (nmB B k))) ?_
      refine Ev_iload rfl rfl ?_
      refine Ev_icmp_ne rfl (fun h17 => ?_) (fun h17 => ?_)
      · refine Ev_iincE rfl rfl (nI_1 k) ?_
        refine Ev_goto rfl ?_
        have hz : ¬ nmB B k = w := fun z => h17 (by rw [z])
        rw [if_neg hz] at hf
        exact ih (k + 1) (by omega) hf
      · refine Ev_iload rfl rfl ?_
        exact Ev_ireturn rfl rfl rfl rfl (by
        have hz : nmB B k = w := (n5_nm (okN_M hok) hw).mp (Decidable.not_not.mp h17)
        rw [if_pos hz] at hf
        exact ⟨by unfold ixV; rw [if_pos (by omega), ← hf], rfl, rfl⟩)
  refine T_of rfl ?_
  refine Ev_const rfl ?_
  refine Ev_istore rfl ?_
  exact loop (nb B) 0 (Nat.zero_add _) rfl
theorem ixV_y {n : Nat} {f : Nat → List Nat} {w : List Nat} (h : fnd n f w < n) : ixV n f w = nI (fnd n f w) := if_pos h
theorem ixV_n {n : Nat} {f : Nat → List Nat} {w : List Nat} (h : ¬ fnd n f w < n) : ixV n f w = -1 := if_neg h
theorem t_isNamed (d : Nat) {σ : St} {w : List Nat} (hq : q = 2 ∨ q = 17) (hρ : RF ρ) (hB : WfB B) (hw : okM w) (H : CNew σ q B) :
    T l X (d + 1) 4 [.ref q, .int (nI (n5 w))] 402 402 ρ σ (Rs (.int (bI (decide (fnd (ni B) (nmI B) w < ni B ∨ fnd (nb B) (nmB B) w < nb B)))) ρ σ) := by
  have h8 := hB.1.1
  have w6 := hB.1.2.1
  have bO := (bo hq hρ).1
  by_cases h1 : fnd (ni B) (nmI B) w < ni B
  · rw [decide_eq_true (Or.inl h1)]
    refine T_of rfl ?_
    refine Ev_aload rfl rfl rfl ?_
    refine Ev_iload rfl rfl ?_
    refine Ev_callV rfl rfl rfl bO rfl (same_n 402) (t_ideaNamed _ hq hρ hB hw H) ?_
    rintro v2 ρ2 σ2 ⟨rfl, e2, g2⟩
    obtain rfl := e2.symm
    obtain rfl := g2.symm
    refine Ev_norm (ixV_y h1) ?_
    refine Ev_const rfl ?_
    refine Ev_icmp_ne rfl (fun h6 => ?_) (fun h6 => absurd (nI_m1 (by omega)) h6)
    refine Ev_const rfl ?_
    refine Ev_goto rfl ?_
    exact Ev_ireturn rfl rfl (narZ true) rfl ⟨rfl, rfl, rfl⟩
  · by_cases h2 : fnd (nb B) (nmB B) w < nb B
    · rw [decide_eq_true (Or.inr h2)]
      refine T_of rfl ?_
      refine Ev_aload rfl rfl rfl ?_
      refine Ev_iload rfl rfl ?_
      refine Ev_callV rfl rfl rfl bO rfl (same_n 402) (t_ideaNamed _ hq hρ hB hw H) ?_
      rintro v2 ρ2 σ2 ⟨rfl, e2, g2⟩
      obtain rfl := e2.symm
      obtain rfl := g2.symm
      refine Ev_norm (ixV_n h1) ?_
      refine Ev_const rfl ?_
      refine Ev_icmp_ne rfl (fun h6 => absurd rfl h6) (fun h6 => ?_)
      refine Ev_aload rfl rfl rfl ?_
      refine Ev_iload rfl rfl ?_
      refine Ev_callV rfl rfl rfl bO rfl (same_n 402) (t_batherNamed _ hq hρ hB hw H) ?_
      rintro v11 ρ11 σ11 ⟨rfl, e11, g11⟩
      obtain rfl := e11.symm
      obtain rfl := g11.symm
      refine Ev_norm (ixV_y h2) ?_
      refine Ev_const rfl ?_
      refine Ev_icmp_eq rfl (fun h15 => absurd h15 (nI_m1 (by omega))) (fun h15 => ?_)
      refine Ev_const rfl ?_
      refine Ev_goto rfl ?_
      exact Ev_ireturn rfl rfl (narZ true) rfl ⟨rfl, rfl, rfl⟩
    · rw [decide_eq_false (fun z => z.elim h1 h2)]
      refine T_of rfl ?_
      refine Ev_aload rfl rfl rfl ?_
      refine Ev_iload rfl rfl ?_
      refine Ev_callV rfl rfl rfl bO rfl (same_n 402) (t_ideaNamed _ hq hρ hB hw H) ?_
      rintro v2 ρ2 σ2 ⟨rfl, e2, g2⟩
      obtain rfl := e2.symm
      obtain rfl := g2.symm
      refine Ev_norm (ixV_n h1) ?_
      refine Ev_const rfl ?_
      refine Ev_icmp_ne rfl (fun h6 => absurd rfl h6) (fun h6 => ?_)
      refine Ev_aload rfl rfl rfl ?_
      refine Ev_iload rfl rfl ?_
      refine Ev_callV rfl rfl rfl bO rfl (same_n 402) (t_batherNamed _ hq hρ hB hw H) ?_
      rintro v11 ρ11 σ11 ⟨rfl, e11, g11⟩
      obtain rfl := e11.symm
      obtain rfl := g11.symm
      refine Ev_norm (ixV_n h2) ?_
      refine Ev_const rfl ?_
      refine Ev_icmp_eq rfl (fun h15 => ?_) (fun h15 => absurd rfl h15)
      refine Ev_const rfl ?_
      exact Ev_ireturn rfl rfl (narZ false) rfl ⟨rfl, rfl, rfl⟩
theorem t_askRoom (d : Nat) {σ : St} {s : Rdg} {n most a : Nat} (hρ : RF ρ) (hn : n < 2 ^ 31) (hm : most < 2 ^ 31) (H : CTe σ U s) :
    T l X (d + 1) 81 [.ref 317, .int (nI n), .int (nI most), .int (nI a)] 402 402 ρ σ (fun v ρ' σ' => v = none ∧ ρ' = ρ ∧ CTe σ' U (roomS n most a s) ∧ CF cTt σ σ') := by
  unfold roomS
  by_cases hc : most ≤ n
  · rw [if_pos hc]
    refine T_of rfl ?_
    refine Ev_iload rfl rfl ?_
    refine Ev_iload rfl rfl ?_
    refine Ev_icmp_lt rfl (fun h2 => absurd h2 (nI_nlt (by omega) (by omega))) (fun h2 => ?_)
    refine Ev_aload rfl rfl rfl ?_
    refine Ev_getR rfl (by first | rfl | assumption) (hρ _ _ _ rfl) ?_
    refine Ev_const rfl ?_
    refine Ev_iload rfl rfl ?_
    refine Ev_callV rfl rfl rfl rfl rfl (same_n 402) (t_fail _ (w := 5) (k := a) H (by decide) (fun _ _ => rfl)) ?_
    rintro v11 ρ11 σ11 ⟨rfl, e11, s11, c11⟩
    obtain rfl := e11.symm
    exact Ev_return rfl rfl rfl ⟨rfl, rfl, s11, c11⟩
  · rw [if_neg hc]
    refine T_of rfl ?_
    refine Ev_iload rfl rfl ?_
    refine Ev_iload rfl rfl ?_
    refine Ev_icmp_lt rfl (fun h2 => ?_) (fun h2 => absurd (nI_lt (by omega) (by omega)) h2)
    exact Ev_return rfl rfl rfl ⟨rfl, rfl, H, CF.rf _ _⟩
theorem t_newName (d : Nat) {σ : St} {s : Rdg} (hq : q = 2 ∨ q = 17) (hρ : RF ρ) (hb : ρ 317 2 = some q) (hT : TxW U) (hB : WfB B) (H : CNew σ q B) (Ht : CTt σ U s) :
    T l X (d + 7) 82 [.ref 317] 402 402 ρ σ (fun v ρ' σ' => v = some (.int (nI (n5 (vNm U s)))) ∧ ρ' = ρ ∧ CTe σ' U (nwN U B s) ∧ (isOk (nwN U B s) = true → σ'.1 316 5 = nI (rpos (lkS U s))) ∧ CF cTn σ σ') := by
  have bO := (bo hq hρ).1
  refine T_of rfl ?_
  by_cases hc : fnd (ni B) (nmI B) (vNm U s) < ni B ∨ fnd (nb B) (nmB B) (vNm U s) < nb B
  · refine Ev_aload rfl rfl rfl ?_
    refine Ev_getR rfl (by first | rfl | assumption) (hρ _ _ _ rfl) ?_
    refine Ev_callV rfl rfl rfl rfl rfl (same_n 402) (t_askName _ hρ hT Ht) ?_
    rintro v4 ρ4 σ4 ⟨rfl, e4, s4, n4, c4⟩
    obtain rfl := e4.symm
    refine Ev_istore rfl ?_
    refine Ev_aload rfl rfl rfl ?_
    refine Ev_getR rfl (by first | rfl | assumption) hb ?_
    refine Ev_iload rfl rfl ?_
    refine Ev_callV rfl rfl rfl bO rfl (same_n 402) (t_isNamed _ hq hρ hB (vN_okM s) (H.tn hq c4)) ?_
    rintro v13 ρ13 σ13 ⟨rfl, e13, g13⟩
    obtain rfl := e13.symm
    obtain rfl := g13.symm
    refine Ev_norm (by rw [decide_eq_true hc] : _ = bI true) ?_
    refine Ev_if_eq rfl (fun h16 => absurd h16 (show ¬ bI true = 0 by decide)) (fun h16 => ?_)
    refine Ev_aload rfl rfl rfl ?_
    refine Ev_getR rfl (by first | rfl | assumption) (hρ _ _ _ rfl) ?_
    refine Ev_const rfl ?_
    refine Ev_aload rfl rfl rfl ?_
    refine Ev_getR rfl (by first | rfl | assumption) (hρ _ _ _ rfl) ?_
    refine Ev_getI rfl (by first | rfl | assumption) ?_
    refine Ev_callV rfl rfl rfl rfl rfl (same_n 402) (t_fail _ (w := 3) (k := rpos (lkS U s)) s4 (by decide) (fun p hp => n4 (by rw [hp]; rfl))) ?_
    rintro v31 ρ31 σ31 ⟨rfl, e31, s31, c31⟩
    obtain rfl := e31.symm
    refine Ev_iload rfl rfl ?_
    exact Ev_ireturn rfl rfl rfl rfl (by
    have eN : nwN U B s = flP 3 (rpos (lkS U s)) (aNm U s) := by
      unfold nwN
      by_cases ho : isOk (aNm U s) = true
      · rw [if_pos ⟨ho, hc⟩]
      · rw [if_neg (fun z => ho z.1)]
        obtain ⟨e, he⟩ := not_inl (Bool.not_eq_true _ ▸ ho : isOk (aNm U s) = false)
        rw [he]; rfl
    rw [eN]
    exact ⟨rfl, rfl, s31, (fun z => by rw [flP_no] at z; cases z), c4.tr (tt_tn c31)⟩)
  · refine Ev_aload rfl rfl rfl ?_
    refine Ev_getR rfl (by first | rfl | assumption) (hρ _ _ _ rfl) ?_
    refine Ev_callV rfl rfl rfl rfl rfl (same_n 402) (t_askName _ hρ hT Ht) ?_
    rintro v4 ρ4 σ4 ⟨rfl, e4, s4, n4, c4⟩
    obtain rfl := e4.symm
    refine Ev_istore rfl ?_
    refine Ev_aload rfl rfl rfl ?_
    refine Ev_getR rfl (by first | rfl | assumption) hb ?_
    refine Ev_iload rfl rfl ?_
    refine Ev_callV rfl rfl rfl bO rfl (same_n 402) (t_isNamed _ hq hρ hB (vN_okM s) (H.tn hq c4)) ?_
    rintro v13 ρ13 σ13 ⟨rfl, e13, g13⟩
    obtain rfl := e13.symm
    obtain rfl := g13.symm
    refine Ev_norm (by rw [decide_eq_false hc] : _ = bI false) ?_
    refine Ev_if_eq rfl (fun h16 => ?_) (fun h16 => absurd rfl h16)
    refine Ev_iload rfl rfl ?_
    exact Ev_ireturn rfl rfl rfl rfl (by
    have eN : nwN U B s = aNm U s := by unfold nwN; rw [if_neg (fun z => hc z.2)]
    rw [eN]
    exact ⟨rfl, rfl, s4, n4, c4⟩)
theorem td_eq {n : Nat} {f : Nat → List Nat} {s : Rdg} (h : fnd n f (vNm U s) = n) : tdN U n f s = flP 3 (rpos (lkS U s)) (aNm U s) := by
  unfold tdN
  by_cases ho : isOk (aNm U s) = true
  · rw [if_pos ⟨ho, h⟩]
  · rw [if_neg (fun z => ho z.1)]
    obtain ⟨e, he⟩ := not_inl (Bool.not_eq_true _ ▸ ho : isOk (aNm U s) = false)
    rw [he]; rfl
theorem t_toldIdea (d : Nat) {σ : St} {s : Rdg} (hq : q = 2 ∨ q = 17) (hρ : RF ρ) (hb : ρ 317 2 = some q) (hT : TxW U) (hB : WfB B) (H : CNew σ q B) (Ht : CTt σ U s) :
    T l X (d + 7) 83 [.ref 317] 402 402 ρ σ (fun v ρ' σ' => v = some (.int (ixV (ni B) (nmI B) (vNm U s))) ∧ ρ' = ρ ∧ CTe σ' U (tdN U (ni B) (nmI B) s) ∧ (isOk (tdN U (ni B) (nmI B) s) = true → σ'.1 316 5 = nI (rpos (lkS U s))) ∧ CF cTn σ σ') := by
  have h8 := hB.1.1
  have hle := fnd_le (ni B) (nmI B) (vNm U s)
  have bO := (bo hq hρ).1
  refine T_of rfl ?_
  by_cases hc : fnd (ni B) (nmI B) (vNm U s) < ni B
  · refine Ev_aload rfl rfl rfl ?_
    refine Ev_getR rfl (by first | rfl | assumption) hb ?_
    refine Ev_aload rfl rfl rfl ?_
    refine Ev_getR rfl (by first | rfl | assumption) (hρ _ _ _ rfl) ?_
    refine Ev_callV rfl rfl rfl rfl rfl (same_n 402) (t_askName _ hρ hT Ht) ?_
    rintro v8 ρ8 σ8 ⟨rfl, e8, s8, n8, c8⟩
    obtain rfl := e8.symm
    refine Ev_callV rfl rfl rfl bO rfl (same_n 402) (t_ideaNamed _ hq hρ hB (vN_okM s) (H.tn hq c8)) ?_
    rintro v11 ρ11 σ11 ⟨rfl, e11, g11⟩
    obtain rfl := e11.symm
    obtain rfl := g11.symm
    refine Ev_norm (ixV_y hc) ?_
    refine Ev_istore rfl ?_
    refine Ev_iload rfl rfl ?_
    refine Ev_const rfl ?_
    refine Ev_icmp_ne rfl (fun h17 => ?_) (fun h17 => absurd (nI_m1 (by omega)) h17)
    refine Ev_iload rfl rfl ?_
    exact Ev_ireturn rfl rfl rfl rfl (by
    have eN : tdN U (ni B) (nmI B) s = aNm U s := by unfold tdN; rw [if_neg (fun z => by omega)]
    rw [eN]
    exact ⟨by rw [ixV_y hc], rfl, s8, n8, c8⟩)
  · refine Ev_aload rfl rfl rfl ?_
    refine Ev_getR rfl (by first | rfl | assumption) hb ?_
    refine Ev_aload rfl rfl rfl ?_
    refine Ev_getR rfl (by first | rfl | assumption) (hρ _ _ _ rfl) ?_
    refine Ev_callV rfl rfl rfl rfl rfl (same_n 402) (t_askName _ hρ hT Ht) ?_
    rintro v8 ρ8 σ8 ⟨rfl, e8, s8, n8, c8⟩
    obtain rfl := e8.symm
    refine Ev_callV rfl rfl rfl bO rfl (same_n 402) (t_ideaNamed _ hq hρ hB (vN_okM s) (H.tn hq c8)) ?_
    rintro v11 ρ11 σ11 ⟨rfl, e11, g11⟩
    obtain rfl := e11.symm
    obtain rfl := g11.symm
    refine Ev_norm (ixV_n hc) ?_
    refine Ev_istore rfl ?_
    refine Ev_iload rfl rfl ?_
    refine Ev_const rfl ?_
    refine Ev_icmp_ne rfl (fun h17 => absurd rfl h17) (fun h17 => ?_)
    refine Ev_aload rfl rfl rfl ?_
    refine Ev_getR rfl (by first | rfl | assumption) (hρ _ _ _ rfl) ?_
    refine Ev_const rfl ?_
    refine Ev_aload rfl rfl rfl ?_
    refine Ev_getR rfl (by first | rfl | assumption) (hρ _ _ _ rfl) ?_
    refine Ev_getI rfl (by first | rfl | assumption) ?_
    refine Ev_callV rfl rfl rfl rfl rfl (same_n 402) (t_fail _ (w := 3) (k := rpos (lkS U s)) s8 (by decide) (fun p hp => n8 (by rw [hp]; rfl))) ?_
    rintro v32 ρ32 σ32 ⟨rfl, e32, s32, c32⟩
    obtain rfl := e32.symm
    refine Ev_iload rfl rfl ?_
    exact Ev_ireturn rfl rfl rfl rfl (by
    rw [td_eq (show fnd (ni B) (nmI B) (vNm U s) = ni B by omega)]
    exact ⟨by rw [ixV_n hc], rfl, s32, (fun z => by rw [flP_no] at z; cases z), c8.tr (tt_tn c32)⟩)
theorem t_toldBather (d : Nat) {σ : St} {s : Rdg} (hq : q = 2 ∨ q = 17) (hρ : RF ρ) (hb : ρ 317 2 = some q) (hT : TxW U) (hB : WfB B) (H : CNew σ q B) (Ht : CTt σ U s) :
    T l X (d + 7) 84 [.ref 317] 402 402 ρ σ (fun v ρ' σ' => v = some (.int (ixV (nb B) (nmB B) (vNm U s))) ∧ ρ' = ρ ∧ CTe σ' U (tdN U (nb B) (nmB B) s) ∧ CF cTn σ σ') := by
  have h6 := hB.1.2.1
  have hle := fnd_le (nb B) (nmB B) (vNm U s)
  have bO := (bo hq hρ).1
  refine T_of rfl ?_
  by_cases hc : fnd (nb B) (nmB B) (vNm U s) < nb B
  · refine Ev_aload rfl rfl rfl ?_
    refine Ev_getR rfl (by first | rfl | assumption) hb ?_
    refine Ev_aload rfl rfl rfl ?_
    refine Ev_getR rfl (by first | rfl | assumption) (hρ _ _ _ rfl) ?_
    refine Ev_callV rfl rfl rfl rfl rfl (same_n 402) (t_askName _ hρ hT Ht) ?_
    rintro v8 ρ8 σ8 ⟨rfl, e8, s8, n8, c8⟩
    obtain rfl := e8.symm
    refine Ev_callV rfl rfl rfl bO rfl (same_n 402) (t_batherNamed _ hq hρ hB (vN_okM s) (H.tn hq c8)) ?_
    rintro v11 ρ11 σ11 ⟨rfl, e11, g11⟩
    obtain rfl := e11.symm
    obtain rfl := g11.symm
    refine Ev_norm (ixV_y hc) ?_
    refine Ev_istore rfl ?_
    refine Ev_iload rfl rfl ?_
    refine Ev_const rfl ?_
    refine Ev_icmp_ne rfl (fun h17 => ?_) (fun h17 => absurd (nI_m1 (by omega)) h17)
    refine Ev_iload rfl rfl ?_
    exact Ev_ireturn rfl rfl rfl rfl (by
    have eN : tdN U (nb B) (nmB B) s = aNm U s := by unfold tdN; rw [if_neg (fun z => by omega)]
    rw [eN]
    exact ⟨by rw [ixV_y hc], rfl, s8, c8⟩)
  · refine Ev_aload rfl rfl rfl ?_
    refine Ev_getR rfl (by first | rfl | assumption) hb ?_
    refine Ev_aload rfl rfl rfl ?_
    refine Ev_getR rfl (by first | rfl | assumption) (hρ _ _ _ rfl) ?_
    refine Ev_callV rfl rfl rfl rfl rfl (same_n 402) (t_askName _ hρ hT Ht) ?_
    rintro v8 ρ8 σ8 ⟨rfl, e8, s8, n8, c8⟩
    obtain rfl := e8.symm
    refine Ev_callV rfl rfl rfl bO rfl (same_n 402) (t_batherNamed _ hq hρ hB (vN_okM s) (H.tn hq c8)) ?_
    rintro v11 ρ11 σ11 ⟨rfl, e11, g11⟩
    obtain rfl := e11.symm
    obtain rfl := g11.symm
    refine Ev_norm (ixV_n hc) ?_
    refine Ev_istore rfl ?_
    refine Ev_iload rfl rfl ?_
    refine Ev_const rfl ?_
    refine Ev_icmp_ne rfl (fun h17 => absurd rfl h17) (fun h17 => ?_)
    refine Ev_aload rfl rfl rfl ?_
    refine Ev_getR rfl (by first | rfl | assumption) (hρ _ _ _ rfl) ?_
    refine Ev_const rfl ?_
    refine Ev_aload rfl rfl rfl ?_
    refine Ev_getR rfl (by first | rfl | assumption) (hρ _ _ _ rfl) ?_
    refine Ev_getI rfl (by first | rfl | assumption) ?_
    refine Ev_callV rfl rfl rfl rfl rfl (same_n 402) (t_fail _ (w := 3) (k := rpos (lkS U s)) s8 (by decide) (fun p hp => n8 (by rw [hp]; rfl))) ?_
    rintro v32 ρ32 σ32 ⟨rfl, e32, s32, c32⟩
    obtain rfl := e32.symm
    refine Ev_iload rfl rfl ?_
    exact Ev_ireturn rfl rfl rfl rfl (by
    rw [td_eq (show fnd (nb B) (nmB B) (vNm U s) = nb B by omega)]
    exact ⟨by rw [ixV_n hc], rfl, s32, c8.tr (tt_tn c32)⟩)
end S88zzb
