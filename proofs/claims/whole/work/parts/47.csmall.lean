/-! Who there is, what comes, a bather looked at, all that are ready, a question of him, sums, copies: the class. -/
theorem in_of {x : Int32} {n : Nat} (h : 0 ≤ x.toInt ∧ x.toInt < (n : Int)) : ∃ b : Nat, b < n ∧ x = nI b := by
  refine ⟨x.toInt.toNat, by omega, ?_⟩
  apply Int32.toInt_inj.mp
  have := Int32.toInt_lt x
  rw [nI_toInt (by omega)]
  omega
theorem in_nI {b n : Nat} (hb : b < n) (hn : n < 2 ^ 31) : 0 ≤ (nI b).toInt ∧ (nI b).toInt < (n : Int) := by
  rw [nI_toInt (by omega)]; omega
/-- n hours from now on: n from lo to hi, not beyond the last hour -/
def cmF (h : Nat) (x : Int32) (lo hi : Nat) : Bool := decide ((lo : Int) ≤ x.toInt ∧ x.toInt ≤ (hi : Int) ∧ (h : Int) + x.toInt ≤ 999)
def hasF (n : Nat) (x : Int32) : Bool := decide (0 ≤ x.toInt ∧ x.toInt < (n : Int))
theorem hasF_of {n : Nat} {x : Int32} (h : hasF n x = true) : ∃ b : Nat, b < n ∧ x = nI b := in_of (of_decide_eq_true h)
theorem hasF_nI {b n : Nat} (hb : b < n) (hn : n < 2 ^ 31) : hasF n (nI b) = true := decide_eq_true (in_nI hb hn)
theorem bI_and {a b : Bool} : bI (a && b) = if bI a = 0 then 0 else bI b := by cases a <;> cases b <;> rfl
theorem ff_of {b : Bool} (h : bI b = 0) : b = false := by
  cases b
  · rfl
  · exact absurd h (by decide)
section S47
variable {l : Launch} {X : Cx} {ρ : Rf} {B : Bh} {q : Nat}
theorem t_hasX (d : Nat) {σ : St} (x : Int32) (hb : ρ 0 2 = some q) (hR : CRd ρ σ q B) (hW : WfN B) : T l X d 151 [.ref 0, .int x] 402 402 ρ σ (Rs (.int (bI (hasF (ni B) x))) ρ σ) ∧ T l X d 152 [.ref 0, .int x] 402 402 ρ σ (Rs (.int (bI (hasF (nb B) x))) ρ σ) := by
  have h8 := hW.1
  have h6 := hW.2.1
  have z0 : (0 : Int32).toInt = 0 := rfl
  constructor
  · refine T_of rfl ?_
    refine Ev_iload rfl rfl ?_
    refine Ev_if_lt rfl (fun h1 => ?_) (fun h1 => ?_)
    · refine Ev_const rfl ?_
      exact Ev_ireturn rfl rfl rfl rfl ⟨by
      have e : hasF (ni B) x = false := decide_eq_false (fun z => by rw [Int32.lt_iff_toInt_lt, z0] at h1; omega)
      rw [e]; rfl, rfl, rfl⟩
    · refine Ev_iload rfl rfl ?_
      refine Ev_aload rfl rfl rfl ?_
      refine Ev_getR rfl (by first | rfl | assumption) hb ?_
      refine Ev_getI rfl (by rcases hR.2.1 with rfl | rfl <;> rfl) ?_
      refine Ev_norm hR.2.2.2.1.1 ?_
      refine Ev_icmp_ge rfl (fun h12 => ?_) (fun h12 => ?_)
      · refine Ev_const rfl ?_
        exact Ev_ireturn rfl rfl rfl rfl ⟨by
        have e : hasF (ni B) x = false := decide_eq_false (fun z => by rw [Int32.le_iff_toInt_le, nI_toInt (by omega)] at h12; omega)
        rw [e]; rfl, rfl, rfl⟩
      · refine Ev_const rfl ?_
        refine Ev_goto rfl ?_
        exact Ev_ireturn rfl rfl rfl rfl ⟨by
        have e : hasF (ni B) x = true := decide_eq_true (by rw [Int32.le_iff_toInt_le, nI_toInt (by omega)] at h12; rw [Int32.lt_iff_toInt_lt, z0] at h1; omega)
        rw [e]; rfl, rfl, rfl⟩
  · refine T_of rfl ?_
    refine Ev_iload rfl rfl ?_
    refine Ev_if_lt rfl (fun h1 => ?_) (fun h1 => ?_)
    · refine Ev_const rfl ?_
      exact Ev_ireturn rfl rfl rfl rfl ⟨by
      have e : hasF (nb B) x = false := decide_eq_false (fun z => by rw [Int32.lt_iff_toInt_lt, z0] at h1; omega)
      rw [e]; rfl, rfl, rfl⟩
    · refine Ev_iload rfl rfl ?_
      refine Ev_aload rfl rfl rfl ?_
      refine Ev_getR rfl (by first | rfl | assumption) hb ?_
      refine Ev_getI rfl (by rcases hR.2.1 with rfl | rfl <;> rfl) ?_
      refine Ev_norm hR.2.2.2.1.2.2.1 ?_
      refine Ev_icmp_ge rfl (fun h12 => ?_) (fun h12 => ?_)
      · refine Ev_const rfl ?_
        exact Ev_ireturn rfl rfl rfl rfl ⟨by
        have e : hasF (nb B) x = false := decide_eq_false (fun z => by rw [Int32.le_iff_toInt_le, nI_toInt (by omega)] at h12; omega)
        rw [e]; rfl, rfl, rfl⟩
      · refine Ev_const rfl ?_
        refine Ev_goto rfl ?_
        exact Ev_ireturn rfl rfl rfl rfl ⟨by
        have e : hasF (nb B) x = true := decide_eq_true (by rw [Int32.le_iff_toInt_le, nI_toInt (by omega)] at h12; rw [Int32.lt_iff_toInt_lt, z0] at h1; omega)
        rw [e]; rfl, rfl, rfl⟩
theorem t_hasBoth (d : Nat) {σ : St} (x y : Int32) (hb : ρ 0 2 = some q) (hR : CRd ρ σ q B) (hW : WfN B) : T l X (d + 1) 153 [.ref 0, .int x, .int y] 402 402 ρ σ (Rs (.int (bI (hasF (nb B) x && hasF (ni B) y))) ρ σ) := by
  refine T_of rfl ?_
  refine Ev_aload rfl rfl rfl ?_
  refine Ev_iload rfl rfl ?_
  refine Ev_callV rfl rfl rfl rfl rfl (same_n 402) ((t_hasX _ x hb hR hW).2) ?_
  rintro v2 ρ2 σ2 ⟨rfl, e2, g2⟩
  obtain rfl := e2.symm
  obtain rfl := g2.symm
  refine Ev_if_eq rfl (fun h5 => ?_) (fun h5 => ?_)
  · refine Ev_const rfl ?_
    exact Ev_ireturn rfl rfl rfl rfl ⟨by rw [ff_of h5]; rfl, rfl, rfl⟩
  · refine Ev_aload rfl rfl rfl ?_
    refine Ev_iload rfl rfl ?_
    refine Ev_callV rfl rfl rfl rfl rfl (same_n 402) ((t_hasX _ y hb hR hW).1) ?_
    rintro v10 ρ10 σ10 ⟨rfl, e10, g10⟩
    obtain rfl := e10.symm
    obtain rfl := g10.symm
    refine Ev_if_eq rfl (fun h13 => ?_) (fun h13 => ?_)
    · refine Ev_const rfl ?_
      exact Ev_ireturn rfl rfl rfl rfl ⟨by rw [ff_of h13, Bool.and_false]; rfl, rfl, rfl⟩
    · refine Ev_const rfl ?_
      refine Ev_goto rfl ?_
      exact Ev_ireturn rfl rfl rfl rfl ⟨by rw [rt_of h5, rt_of h13]; rfl, rfl, rfl⟩
theorem t_comes (d : Nat) {σ : St} (x : Int32) {h lo hi : Nat} (hρ : RF ρ) (hh : σ.1 32 0 = nI h) (h9 : h ≤ 2000) (hlo : lo ≤ 1000) (hhi : hi ≤ 1000) : T l X d 154 [.ref 0, .int x, .int (nI lo), .int (nI hi)] 402 402 ρ σ (Rs (.int (bI (cmF h x lo hi))) ρ σ) := by
  refine T_of rfl ?_
  refine Ev_iload rfl rfl ?_
  refine Ev_iload rfl rfl ?_
  refine Ev_icmp_lt rfl (fun h2 => ?_) (fun h2 => ?_)
  · refine Ev_const rfl ?_
    exact Ev_ireturn rfl rfl rfl rfl ⟨by
    have e : cmF h x lo hi = false := decide_eq_false (fun z => by rw [Int32.lt_iff_toInt_lt, nI_toInt (by omega)] at h2; omega)
    rw [e]; rfl, rfl, rfl⟩
  · refine Ev_iload rfl rfl ?_
    refine Ev_iload rfl rfl ?_
    refine Ev_icmp_gt rfl (fun h7 => ?_) (fun h7 => ?_)
    · refine Ev_const rfl ?_
      exact Ev_ireturn rfl rfl rfl rfl ⟨by
      have e : cmF h x lo hi = false := decide_eq_false (fun z => by rw [Int32.lt_iff_toInt_lt, nI_toInt (by omega)] at h7; omega)
      rw [e]; rfl, rfl, rfl⟩
    · refine Ev_aload rfl rfl rfl ?_
      refine Ev_getR rfl (by first | rfl | assumption) (hρ _ _ _ rfl) ?_
      refine Ev_getI rfl (by first | rfl | assumption) ?_
      refine Ev_norm hh ?_
      refine Ev_iload rfl rfl ?_
      refine Ev_iadd rfl ?_
      refine Ev_const rfl ?_
      rw [Int32.lt_iff_toInt_lt, nI_toInt (by omega)] at h2 h7
      have es : (nI h + x).toInt = (h : Int) + x.toInt := by rw [Int32.toInt_add, nI_toInt (by omega), bm32 (by omega)]
      have e9 : (999 : Int32).toInt = 999 := rfl
      refine Ev_icmp_gt rfl (fun h22 => ?_) (fun h22 => ?_)
      · refine Ev_const rfl ?_
        exact Ev_ireturn rfl rfl rfl rfl ⟨by
        have e : cmF h x lo hi = false := decide_eq_false (fun z => by rw [Int32.lt_iff_toInt_lt, es, e9] at h22; omega)
        rw [e]; rfl, rfl, rfl⟩
      · refine Ev_const rfl ?_
        refine Ev_goto rfl ?_
        exact Ev_ireturn rfl rfl rfl rfl ⟨by
        have e : cmF h x lo hi = true := decide_eq_true (by rw [Int32.lt_iff_toInt_lt, es, e9] at h22; omega)
        rw [e]; rfl, rfl, rfl⟩
theorem t_lookAt (d : Nat) {σ : St} {h b : Nat} {S : Str} (hb0 : ρ 0 2 = some q) (hR : CRd ρ σ q B) (hW : WfN B) (hWf : WfF B) (hh : σ.1 32 0 = nI h) (hS : CStr σ S) (hSw : WfS B S) (h9 : h ≤ 2000) (hb : b < nb B) :
    T l X (d + 4) 155 [.ref 0, .int (nI b)] 402 402 ρ σ (fun v ρ' σ' => v = none ∧ ρ' = ρ ∧ CF cL σ σ' ∧ Stl σ' B (S b) b (wit B b) h (tdM B h)) := by
  have hρ := hR.1
  have h6 := hW.2.1
  have hwt : σ.1 (q + 7) b = nI (wit B b) := (hR.2.2.2.2.1.2 b hb).2
  have hrow := hS b (by omega)
  refine T_of rfl ?_
  refine Ev_aload rfl rfl rfl ?_
  refine Ev_getR rfl (by first | rfl | assumption) (hρ _ _ _ rfl) ?_
  refine Ev_aload rfl rfl rfl ?_
  refine Ev_getR rfl (by first | rfl | assumption) (hρ _ _ _ rfl) ?_
  refine Ev_getI rfl (by first | rfl | assumption) ?_
  refine Ev_norm hh ?_
  refine Ev_callV rfl rfl rfl rfl rfl (same_n 402) (t_tideAt _ hR hWf h9) ?_
  rintro v11 ρ11 σ11 ⟨rfl, e11, s11, -, -⟩
  obtain rfl := e11.symm
  refine Ev_istore rfl ?_
  refine Ev_aload rfl rfl rfl ?_
  refine Ev_getR rfl (by first | rfl | assumption) (hρ _ _ _ rfl) ?_
  refine Ev_aload rfl rfl rfl ?_
  refine Ev_getR rfl (by first | rfl | assumption) (hρ _ _ _ rfl) ?_
  refine Ev_getR rfl (by first | rfl | assumption) (hρ _ _ _ rfl) ?_
  refine Ev_iload rfl rfl ?_
  refine Ev_aald (t := 4) rfl (Or.inl rfl) (by first | rfl | assumption) (vp_in_nI (n := b) (show b < 6 by omega) (by decide)) (by rw [nI_clamp (by omega)]; exact rf33 hρ (by omega) : _ = some (34 + b)) ?_
  refine Ev_iload rfl rfl ?_
  refine Ev_aload rfl rfl rfl ?_
  refine Ev_getR rfl (by first | rfl | assumption) hb0 ?_
  refine Ev_getR rfl (by rcases hR.2.1 with rfl | rfl <;> rfl) (by rcases hR.2.1 with rfl | rfl <;> exact hρ _ _ _ rfl : _ = some (q + 7)) ?_
  refine Ev_iload rfl rfl ?_
  refine Ev_iald rfl (by rcases hR.2.1 with rfl | rfl <;> rfl) (by rcases hR.2.1 with rfl | rfl <;> exact vp_in_nI (n := b) (show b < 6 by omega) (by decide)) ?_
  refine Ev_norm (by rw [nI_clamp (by omega), s11.1 (q + 7) b (by rcases hR.2.1 with rfl | rfl <;> rfl)]; exact hwt : _ = nI (wit B b)) ?_
  refine Ev_aload rfl rfl rfl ?_
  refine Ev_getR rfl (by first | rfl | assumption) (hρ _ _ _ rfl) ?_
  refine Ev_getI rfl (by first | rfl | assumption) ?_
  refine Ev_norm (by rw [s11.1 32 _ rfl]; exact hh : _ = nI h) ?_
  refine Ev_iload rfl rfl ?_
  refine Ev_callV rfl rfl rfl rfl rfl (same_n 402) (t_settle _ (hR.cl s11) hW hb (rowN (by omega)) (hrow.cl s11 ((rowN (by omega)).cl)) (hSw.row b)) ?_
  rintro v46 ρ46 σ46 ⟨rfl, e46, s46, st46⟩
  obtain rfl := e46.symm
  exact Ev_return rfl rfl rfl ⟨rfl, rfl, s11.tr s46, st46⟩
theorem rb_loop {d b w h tide : Nat} {row : Nat → Nat} (hW : WfN B) (hWt : WfT B) (hWf : WfF B) (hw9 : w ≤ 9) (hh : h ≤ 2000) (ht9 : tide ≤ 9) (hb : b < nb B) (σ0 : St) : ∀ (m k : Nat) (σ : St), k + m = ni B → CF cA0 σ0 σ → CRd ρ σ q B → Stl σ B row b w h tide →
    Ev l X (d + 4) 51 4 [.ref 265, .int (nI (kset k (fun i => bif rdM B row b w h tide i then 1 else 0))), .int (nI k)] [] 402 402 402 ρ σ (fun v ρ' σ' => v = some (.int (nI (rset B row b w h tide))) ∧ ρ' = ρ ∧ CF cA0 σ0 σ') := by
  have h8 := hW.1
  intro m
  induction m with
  | zero =>
    intro k σ hk hs hR hst
    refine Ev_iload rfl rfl ?_
    refine Ev_aload rfl rfl rfl ?_
    refine Ev_getR rfl (by first | rfl | assumption) hR.2.2.1 ?_
    refine Ev_getI rfl (by rcases hR.2.1 with rfl | rfl <;> rfl) ?_
    refine Ev_norm hR.2.2.2.1.1 ?_
    refine Ev_icmp_ge rfl (fun h12 => ?_) (fun h12 => absurd (nI_le (by omega) (by omega)) h12)
    refine Ev_iload rfl rfl ?_
    exact Ev_ireturn rfl rfl rfl rfl ⟨by unfold rset; rw [show k = ni B by omega], rfl, hs⟩
  | succ m ih =>
    intro k σ hk hs hR hst
    refine Ev_iload rfl rfl ?_
    refine Ev_aload rfl rfl rfl ?_
    refine Ev_getR rfl (by first | rfl | assumption) hR.2.2.1 ?_
    refine Ev_getI rfl (by rcases hR.2.1 with rfl | rfl <;> rfl) ?_
    refine Ev_norm hR.2.2.2.1.1 ?_
    refine Ev_icmp_ge rfl (fun h12 => absurd h12 (nI_ge (by omega) (by omega))) (fun h12 => ?_)
    refine Ev_aload rfl rfl rfl ?_
    refine Ev_iload rfl rfl ?_
    refine Ev_callV rfl rfl rfl rfl rfl (same_n 402) (t_isReady _ hR hW hWt hWf hst hw9 hh ht9 hb (by omega)) ?_
    rintro v17 ρ17 σ17 ⟨rfl, e17, s17⟩
    obtain rfl := e17.symm
    refine Ev_if_eq rfl (fun h20 => ?_) (fun h20 => ?_)
    · refine Ev_iincE rfl rfl (nI_1 k) ?_
      refine Ev_goto rfl ?_
      have e : kset (k + 1) (fun i => bif rdM B row b w h tide i then 1 else 0) = kset k (fun i => bif rdM B row b w h tide i then 1 else 0) := kset_s0 (by show (bif rdM B row b w h tide k then 1 else 0) = 0; rw [ff_of h20]; rfl)
      have := ih (k + 1) σ17 (by omega) (hs.tr s17) (hR.cl (s17.wk (fun _ _ h => cA0_L h))) (hst.ca s17)
      rw [e] at this
      exact this
    · refine Ev_iload rfl rfl ?_
      refine Ev_const rfl ?_
      refine Ev_iload rfl rfl ?_
      refine Ev_ishl rfl ?_
      refine Ev_ior rfl ?_
      refine Ev_norm (set_bit (kset_lt k _) (by omega)) ?_
      refine Ev_istore rfl ?_
      refine Ev_iincE rfl rfl (nI_1 k) ?_
      refine Ev_goto rfl ?_
      have e : kset (k + 1) (fun i => bif rdM B row b w h tide i then 1 else 0) = kset k (fun i => bif rdM B row b w h tide i then 1 else 0) + 2 ^ k := kset_s1 (by show 0 < (bif rdM B row b w h tide k then 1 else 0); rw [rt_of h20]; exact Nat.zero_lt_one)
      have := ih (k + 1) σ17 (by omega) (hs.tr s17) (hR.cl (s17.wk (fun _ _ h => cA0_L h))) (hst.ca s17)
      rw [e] at this
      exact this
theorem t_readyBits (d : Nat) {σ : St} {b w h tide : Nat} {row : Nat → Nat} (hR : CRd ρ σ q B) (hW : WfN B) (hWt : WfT B) (hWf : WfF B) (hst : Stl σ B row b w h tide) (hw9 : w ≤ 9) (hh : h ≤ 2000) (ht9 : tide ≤ 9) (hb : b < nb B) :
    T l X (d + 4) 51 [.ref 265] 402 402 ρ σ (fun v ρ' σ' => v = some (.int (nI (rset B row b w h tide))) ∧ ρ' = ρ ∧ CF cA0 σ σ') := by
  refine T_of rfl ?_
  refine Ev_const rfl ?_
  refine Ev_istore rfl ?_
  refine Ev_const rfl ?_
  refine Ev_istore rfl ?_
  exact rb_loop hW hWt hWf hw9 hh ht9 hb σ (ni B) 0 σ (by omega) (CF.rf _ _) hR hst
theorem so_loop {d r : Nat} {σ : St} {row : Nat → Nat} (hr : RowO r) (hrow : RowR σ r row) : ∀ (m k : Nat), k + m = 8 → Ev l X d 159 4 [.ref r, .int (nI (sumf k row)), .int (nI k)] [] 402 402 402 ρ σ (Rs (.int (nI (sumf 8 row))) ρ σ) := by
  intro m
  induction m with
  | zero =>
    intro k hk
    have hk : k = 8 := by omega
    subst hk
    refine Ev_iload rfl rfl ?_
    refine Ev_aload rfl rfl rfl ?_
    refine Ev_alen rfl (by rw [show Nat.blt r 402 = true from Nat.blt_eq.mpr (by have := hr.2.2.2.2.2; omega), (isA_lt hr.1).2]; rfl) ?_
    refine Ev_norm (by rw [hr.2.1]; rfl : _ = nI 8) ?_
    refine Ev_icmp_ge rfl (fun h7 => ?_) (fun h7 => absurd (by decide) h7)
    refine Ev_iload rfl rfl ?_
    exact Ev_ireturn rfl rfl rfl rfl ⟨rfl, rfl, rfl⟩
  | succ m ih =>
    intro k hk
    refine Ev_iload rfl rfl ?_
    refine Ev_aload rfl rfl rfl ?_
    refine Ev_alen rfl (by rw [show Nat.blt r 402 = true from Nat.blt_eq.mpr (by have := hr.2.2.2.2.2; omega), (isA_lt hr.1).2]; rfl) ?_
    refine Ev_norm (by rw [hr.2.1]; rfl : _ = nI 8) ?_
    refine Ev_icmp_ge rfl (fun h7 => absurd h7 (nI_ge (b := 8) (by omega) (by decide))) (fun h7 => ?_)
    refine Ev_iload rfl rfl ?_
    refine Ev_aload rfl rfl rfl ?_
    refine Ev_iload rfl rfl ?_
    refine Ev_iald rfl hr.1 (by rw [hr.2.1]; exact vp_in_nI (n := k) (show k < 8 by omega) (by decide)) ?_
    refine Ev_norm (by rw [nI_clamp (by omega)]; exact hrow k (by omega) : _ = nI (row k)) ?_
    refine Ev_iadd rfl ?_
    refine Ev_norm (nI_add _ _) ?_
    refine Ev_istore rfl ?_
    refine Ev_iincE rfl rfl (nI_1 k) ?_
    refine Ev_goto rfl ?_
    exact ih (k + 1) (by omega)
theorem t_sumOf (d : Nat) {r : Nat} {σ : St} {row : Nat → Nat} (hr : RowO r) (hrow : RowR σ r row) : T l X d 159 [.ref r] 402 402 ρ σ (Rs (.int (nI (sumf 8 row))) ρ σ) := by
  refine T_of rfl ?_
  refine Ev_const rfl ?_
  refine Ev_istore rfl ?_
  refine Ev_const rfl ?_
  refine Ev_istore rfl ?_
  exact so_loop hr hrow 8 0 rfl
theorem t_copyRow (d : Nat) {k k' N : Nat} {σ : St} (hk : isA 402 k 0 = true) (hk' : isA 402 k' 0 = true) (h1 : (shp k).2 = N) (h2 : (shp k').2 = N) (hN : N < 10000) : T l X (d + 1) 161 [.ref k, .ref k'] 402 402 ρ σ (fun v ρ' σ' => v = none ∧ ρ' = ρ ∧ ∃ f, σ' = sI σ k' f ∧ (∀ j, j < N → f j = σ.1 k j) ∧ ∀ j, N ≤ j → f j = σ.1 k' j) := by
  have hlt := isA_lt hk
  have hlt' := isA_lt hk'
  refine T_of rfl ?_
  refine Ev_aload rfl rfl rfl ?_
  refine Ev_const rfl ?_
  refine Ev_aload rfl rfl rfl ?_
  refine Ev_const rfl ?_
  refine Ev_aload rfl rfl rfl ?_
  refine Ev_alen rfl (by rw [Nat.blt_eq.mpr hlt.1, hlt.2]; rfl) ?_
  refine Ev_norm (by rw [h1]; rfl : _ = nI N) ?_
  refine Ev_aload rfl rfl rfl ?_
  refine Ev_alen rfl (by rw [Nat.blt_eq.mpr hlt'.1, hlt'.2]; rfl) ?_
  refine Ev_norm (by rw [h2]; rfl : _ = nI N) ?_
  refine Ev_callS rfl rfl rfl rfl (same_n 402) (t_min _ _ _) ?_
  rintro v8 ρ8 σ8 ⟨rfl, e8, g8⟩
  obtain rfl := e8.symm
  obtain rfl := g8.symm
  refine Ev_norm (by rw [ite_self] : _ = nI N) ?_
  refine Ev_copy rfl hk hk' (by decide) (by decide) (nI_pos (by omega)) (by rw [h1, nI_clamp (by omega)]; exact Nat.le_of_eq (Nat.zero_add N)) (by rw [h2, nI_clamp (by omega)]; exact Nat.le_of_eq (Nat.zero_add N)) rfl ?_
  exact Ev_return rfl rfl rfl ⟨rfl, rfl, _, rfl, fun j hj => by
  rw [nI_clamp (by omega)]
  show va_cpy (σ.1 k) (σ.1 k') 0 0 N j = _
  unfold va_cpy
  rw [if_pos ⟨Nat.zero_le _, by omega⟩, Nat.zero_add, Nat.sub_zero], fun j hj => by
  rw [nI_clamp (by omega)]
  show va_cpy (σ.1 k) (σ.1 k') 0 0 N j = _
  unfold va_cpy
  rw [if_neg (by omega)]⟩
end S47
