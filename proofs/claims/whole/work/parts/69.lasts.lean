/-! How long he keeps it, by what chance he knows: the class. -/
def knO (B : Bh) (P : Nat → Nat) (row : Nat → Nat) (b w h i t : Nat) : Nat := if 0 < hrB B row b w h t (pfM B P h b) i then 1 else 0
section S69
variable {l : Launch} {X : Cx} {ρ : Rf} {B : Bh} {q : Nat}
theorem lk_loop {d b i h N : Nat} {row : Nat → Nat} (hW : WfN B) (hWt : WfT B) (hWf : WfF B) (h8 : Rw8 B row) (hh : h + N ≤ 1999) (hb : b < nb B) (hi : i < ni B) (σ0 : St) :
    ∀ (m k : Nat) (σ : St), k + m = N → CF (cLr 279) σ0 σ → CRd ρ σ q B → σ.1 32 0 = nI h → RowR σ 279 (fdI B b (wit B b) h k row) →
    Ev l X (d + 6) 15 26 [.ref 267, .int (nI b), .int (nI i), .int (nI N), .int (nI k)] [] 402 402 402 ρ σ (fun v ρ' σ' => v = some (.int (nI (lstK (fun n => fdI B b (wit B b) h n row i) m k))) ∧ ρ' = ρ ∧ CF (cLr 279) σ0 σ') := by
  have n6 := hW.2.1
  have n8 := hW.1
  intro m
  induction m with
  | zero =>
    intro k σ hk hs hR hhr hrow
    have hk : k = N := by omega
    subst hk
    refine Ev_iload rfl rfl ?_
    refine Ev_iload rfl rfl ?_
    refine Ev_icmp_ge rfl (fun h29 => ?_) (fun h29 => absurd (nI_le (Nat.le_refl _) (by omega)) h29)
    refine Ev_iload rfl rfl ?_
    exact Ev_ireturn rfl rfl rfl rfl ⟨rfl, rfl, hs⟩
  | succ m ih =>
    intro k σ hk hs hR hhr hrow
    have hρ := hR.1
    have h99 := (fdI_w (b := b) (w := wit B b) (h := h) h8 (k + 1)).1 i
    refine Ev_iload rfl rfl ?_
    refine Ev_iload rfl rfl ?_
    refine Ev_icmp_ge rfl (fun h29 => absurd h29 (nI_ge (by omega) (by omega))) (fun h29 => ?_)
    refine Ev_aload rfl rfl rfl ?_
    refine Ev_getR rfl (by first | rfl | assumption) (hρ _ _ _ rfl) ?_
    refine Ev_aload rfl rfl rfl ?_
    refine Ev_getR rfl (by first | rfl | assumption) (hρ _ _ _ rfl) ?_
    refine Ev_iload rfl rfl ?_
    refine Ev_aload rfl rfl rfl ?_
    refine Ev_getR rfl (by first | rfl | assumption) (hρ _ _ _ rfl) ?_
    refine Ev_getR rfl (by first | rfl | assumption) hR.2.2.1 ?_
    refine Ev_getR rfl (by rcases hR.2.1 with rfl | rfl <;> rfl) (by rcases hR.2.1 with rfl | rfl <;> exact hρ _ _ _ rfl : _ = some (q + 7)) ?_
    refine Ev_iload rfl rfl ?_
    refine Ev_iald rfl (by rcases hR.2.1 with rfl | rfl <;> rfl) (by rcases hR.2.1 with rfl | rfl <;> exact vp_in_nI (n := b) (show b < 6 by omega) (by decide)) ?_
    refine Ev_norm (by rw [nI_clamp (by omega)]; exact ev_wit hR hb : _ = nI (wit B b)) ?_
    refine Ev_aload rfl rfl rfl ?_
    refine Ev_getR rfl (by first | rfl | assumption) (hρ _ _ _ rfl) ?_
    refine Ev_getI rfl (by first | rfl | assumption) ?_
    refine Ev_norm hhr ?_
    refine Ev_iload rfl rfl ?_
    refine Ev_iadd rfl ?_
    refine Ev_norm (nI_add h k) ?_
    refine Ev_const rfl ?_
    refine Ev_const rfl ?_
    refine Ev_callV rfl rfl rfl rfl rfl (same_n 402) (t_passA _ hR hW hWt hWf row279 hrow (fdI_w h8 k) (hWt.2.1 b hb).2 (by omega) hb (pl := none) (fun i q => by cases q)) ?_
    rintro v65 ρ65 σ65 ⟨⟨x65, rfl⟩, e65, s65, r65⟩
    obtain rfl := e65.symm
    refine Ev_pop rfl (fun _ q => nomatch q) ?_
    refine Ev_aload rfl rfl rfl ?_
    refine Ev_getR rfl (by first | rfl | assumption) (hρ _ _ _ rfl) ?_
    refine Ev_iload rfl rfl ?_
    refine Ev_iald rfl (by first | rfl | assumption) (vp_in_nI (n := i) (show i < 8 by omega) (by decide)) ?_
    refine Ev_norm (show _ = nI (fdI B b (wit B b) h (k + 1) row i) by rw [nI_clamp (by omega)]; exact r65 i (by omega)) ?_
    refine Ev_if_ne rfl (fun h75 => ?_) (fun h75 => ?_)
    · refine Ev_iincE rfl rfl (nI_1 k) ?_
      refine Ev_goto rfl ?_
      have hz : ¬ fdI B b (wit B b) h (k + 1) row i = 0 := fun z => h75 (by rw [z]; rfl)
      have := ih (k + 1) σ65 (by omega) (hs.tr s65) (hR.cr row279 s65) (by rw [s65.1 32 _ rfl]; exact hhr) r65
      unfold lstK
      simp only [if_neg hz]
      exact this
    · refine Ev_iload rfl rfl ?_
      exact Ev_ireturn rfl rfl rfl rfl ⟨by unfold lstK; rw [if_pos (Decidable.byContradiction fun z => h75 (nI_ne0 (Nat.pos_of_ne_zero z) (by omega)))], rfl, hs.tr s65⟩
theorem t_lastKnown (d : Nat) {σ : St} {b i h : Nat} {S : Str} (hR : CRd ρ σ q B) (hW : WfN B) (hWt : WfT B) (hWf : WfF B) (hS : CStr σ S) (hSw : WfS B S) (hhr : σ.1 32 0 = nI h) (hh : h ≤ 999) (hb : b < nb B) (hi : i < ni B) :
    T l X (d + 6) 15 [.ref 267, .int (nI b), .int (nI i)] 402 402 ρ σ (fun v ρ' σ' => v = some (.int (nI (lstK (fun n => fdI B b (wit B b) h n (S b) i) (most60 h 60) 0))) ∧ ρ' = ρ ∧ CF (cLr 279) σ σ') := by
  have hρ := hR.1
  have n6 := hW.2.1
  have hm : most60 h 60 ≤ 60 := by unfold most60; split <;> omega
  refine T_of rfl ?_
  refine Ev_aload rfl rfl rfl ?_
  refine Ev_getR rfl (by first | rfl | assumption) (hρ _ _ _ rfl) ?_
  refine Ev_getR rfl (by first | rfl | assumption) (hρ _ _ _ rfl) ?_
  refine Ev_iload rfl rfl ?_
  refine Ev_aald (t := 4) rfl (Or.inl rfl) (by first | rfl | assumption) (vp_in_nI (n := b) (show b < 6 by omega) (by decide)) (by rw [nI_clamp (by omega)]; exact rf33 hρ (by omega) : _ = some (34 + b)) ?_
  refine Ev_aload rfl rfl rfl ?_
  refine Ev_getR rfl (by first | rfl | assumption) (hρ _ _ _ rfl) ?_
  refine Ev_callS rfl rfl rfl rfl (same_n 402) (t_copyRow _ (rowN (show b < 6 by omega)).1 rfl (rowN (show b < 6 by omega)).2.1 rfl (by decide)) ?_
  rintro v13 ρ13 σ13 ⟨rfl, e13, f, hf, f1, f2⟩
  obtain rfl := e13.symm
  subst hf
  have s1 : CF (cLr 279) σ (sI σ 279 f) := CF.cell σ f (fun j => cLr_self 279 j)
  refine Ev_aload rfl rfl rfl ?_
  refine Ev_const rfl ?_
  refine Ev_callV rfl rfl rfl rfl rfl (same_n 402) (t_hoursToCome _ (m := 60) hρ (by rw [s1.1 32 _ rfl]; exact hhr) hh (by decide)) ?_
  rintro v19 ρ19 σ19 ⟨rfl, e19, g19⟩
  obtain rfl := e19.symm
  obtain rfl := g19.symm
  refine Ev_istore rfl ?_
  refine Ev_const rfl ?_
  refine Ev_istore rfl ?_
  exact lk_loop hW hWt hWf (hSw.row b) (by omega) hb hi σ (most60 h 60) 0 _ (by omega) s1 (hR.cr row279 s1) (by rw [s1.1 32 _ rfl]; exact hhr) (fun i hi => by rw [sR_0, f1 i hi]; exact hS b (by omega) i hi)
theorem t_knownBy (d : Nat) {σ : St} {b i h t : Nat} {S : Str} {P : Nat → Nat} (hR : CRd ρ σ q B) (hW : WfN B) (hWt : WfT B) (hWf : WfF B) (hP : WfP B P) (hc : CPl σ 32 B P) (hS : CStr σ S) (hSw : WfS B S) (hhr : σ.1 32 0 = nI h) (hh : h ≤ 999) (ht : t ≤ 9) (hb : b < nb B) (hi : i < ni B) :
    T l X (d + 6) 27 [.ref 267, .int (nI b), .int (nI i), .int (nI t)] 402 402 ρ σ (fun v ρ' σ' => v = some (.int (nI (knO B P (S b) b (wit B b) h i t))) ∧ ρ' = ρ ∧ CF (cLr 279) σ σ') := by
  have hρ := hR.1
  have n6 := hW.2.1
  have n8 := hW.1
  refine T_of rfl ?_
  refine Ev_aload rfl rfl rfl ?_
  refine Ev_getR rfl (by first | rfl | assumption) (hρ _ _ _ rfl) ?_
  refine Ev_getR rfl (by first | rfl | assumption) (hρ _ _ _ rfl) ?_
  refine Ev_iload rfl rfl ?_
  refine Ev_aald (t := 4) rfl (Or.inl rfl) (by first | rfl | assumption) (vp_in_nI (n := b) (show b < 6 by omega) (by decide)) (by rw [nI_clamp (by omega)]; exact rf33 hρ (by omega) : _ = some (34 + b)) ?_
  refine Ev_aload rfl rfl rfl ?_
  refine Ev_getR rfl (by first | rfl | assumption) (hρ _ _ _ rfl) ?_
  refine Ev_callS rfl rfl rfl rfl (same_n 402) (t_copyRow _ (rowN (show b < 6 by omega)).1 rfl (rowN (show b < 6 by omega)).2.1 rfl (by decide)) ?_
  rintro v13 ρ13 σ13 ⟨rfl, e13, f, hf, f1, f2⟩
  obtain rfl := e13.symm
  subst hf
  have s1 : CF (cLr 279) σ (sI σ 279 f) := CF.cell σ f (fun j => cLr_self 279 j)
  have hR1 := hR.cr row279 s1
  refine Ev_aload rfl rfl rfl ?_
  refine Ev_getR rfl (by first | rfl | assumption) (hρ _ _ _ rfl) ?_
  refine Ev_iload rfl rfl ?_
  refine Ev_aload rfl rfl rfl ?_
  refine Ev_getR rfl (by first | rfl | assumption) (hρ _ _ _ rfl) ?_
  refine Ev_getI rfl (by first | rfl | assumption) ?_
  refine Ev_norm (by rw [s1.1 32 _ rfl]; exact hhr : _ = nI h) ?_
  refine Ev_callV rfl rfl rfl rfl rfl (same_n 402) (t_plannedFor _ hρ (Or.inl rfl) hW hP (hc.cf s1 (fun j => cLr_f (by omega) (by omega)) (fun j => cLr_f (by omega) (by omega)) (fun j => cLr_f (by omega) (by omega))) (by omega) hb) ?_
  rintro v28 ρ28 σ28 ⟨rfl, e28, g28⟩
  obtain rfl := e28.symm
  obtain rfl := g28.symm
  refine Ev_istore rfl ?_
  refine Ev_aload rfl rfl rfl ?_
  refine Ev_getR rfl (by first | rfl | assumption) (hρ _ _ _ rfl) ?_
  refine Ev_aload rfl rfl rfl ?_
  refine Ev_getR rfl (by first | rfl | assumption) (hρ _ _ _ rfl) ?_
  refine Ev_iload rfl rfl ?_
  refine Ev_aload rfl rfl rfl ?_
  refine Ev_getR rfl (by first | rfl | assumption) (hρ _ _ _ rfl) ?_
  refine Ev_getR rfl (by first | rfl | assumption) hR.2.2.1 ?_
  refine Ev_getR rfl (by rcases hR.2.1 with rfl | rfl <;> rfl) (by rcases hR.2.1 with rfl | rfl <;> exact hρ _ _ _ rfl : _ = some (q + 7)) ?_
  refine Ev_iload rfl rfl ?_
  refine Ev_iald rfl (by rcases hR.2.1 with rfl | rfl <;> rfl) (by rcases hR.2.1 with rfl | rfl <;> exact vp_in_nI (n := b) (show b < 6 by omega) (by decide)) ?_
  refine Ev_norm (by rw [nI_clamp (by omega)]; exact ev_wit hR1 hb : _ = nI (wit B b)) ?_
  refine Ev_aload rfl rfl rfl ?_
  refine Ev_getR rfl (by first | rfl | assumption) (hρ _ _ _ rfl) ?_
  refine Ev_getI rfl (by first | rfl | assumption) ?_
  refine Ev_norm (by rw [s1.1 32 _ rfl]; exact hhr : _ = nI h) ?_
  refine Ev_iload rfl rfl ?_
  refine Ev_iload rfl rfl ?_
  refine Ev_callV rfl rfl rfl rfl rfl (same_n 402) (t_pass _ hR1 hW hWt hWf row279 (row := S b) (fun i hi => by rw [sR_0, f1 i hi]; exact hS b (by omega) i hi) (hSw.row b) (hWt.2.1 b hb).2 (by omega) ht hb (pl := pfM B P h b) (fun i q => (pfM_ok hP q).2.2.2.2)) ?_
  rintro v64 ρ64 σ64 ⟨rfl, e64, s64, r64⟩
  obtain rfl := e64.symm
  refine Ev_pop rfl (fun _ q => nomatch q) ?_
  refine Ev_aload rfl rfl rfl ?_
  refine Ev_getR rfl (by first | rfl | assumption) (hρ _ _ _ rfl) ?_
  refine Ev_iload rfl rfl ?_
  refine Ev_iald rfl (by first | rfl | assumption) (vp_in_nI (n := i) (show i < 8 by omega) (by decide)) ?_
  refine Ev_norm (show _ = nI (hrB B (S b) b (wit B b) h t (pfM B P h b) i) by rw [nI_clamp (by omega)]; exact r64 i (by omega)) ?_
  refine Ev_if_le rfl (fun h74 => ?_) (fun h74 => ?_)
  · refine Ev_const rfl ?_
    exact Ev_ireturn rfl rfl rfl rfl ⟨by unfold knO; rw [if_neg (fun z => absurd h74 (nI_nle z (by have := hrB_le (B := B) (row := S b) (b := b) (w := wit B b) (h := h) (tide := t) (o := pfM B P h b) (fun j => (hSw b j).1) i; omega)))]; rfl, rfl, s1.tr s64⟩
  · refine Ev_const rfl ?_
    refine Ev_goto rfl ?_
    exact Ev_ireturn rfl rfl rfl rfl ⟨by unfold knO; rw [if_pos (Nat.pos_of_ne_zero (fun z => h74 (by rw [z]; decide)))]; rfl, rfl, s1.tr s64⟩
/-- the counts by the tides of a squall -/
def odK (B : Bh) (P : Nat → Nat) (row : Nat → Nat) (b w h i : Nat) (n : Nat) : Nat := sumf n (fun t => sq B * knO B P row b w h i t)
theorem co_loop {d b i h : Nat} {S : Str} {P : Nat → Nat} (hW : WfN B) (hWt : WfT B) (hWf : WfF B) (hP : WfP B P) (hSw : WfS B S) (hh : h ≤ 999) (hb : b < nb B) (hi : i < ni B) (σ0 : St) :
    ∀ (m k : Nat) (σ : St), k + m = 10 → CF (cLr 279) σ0 σ → CRd ρ σ q B → CPl σ 32 B P → CStr σ S → σ.1 32 0 = nI h →
    Ev l X (d + 7) 26 17 [.ref 267, .int (nI b), .int (nI i), .int (nI (sq B)), .int (nI (odK B P (S b) b (wit B b) h i k)), .int (nI k)] [] 402 402 402 ρ σ (fun v ρ' σ' => v = some (.int (nI (odK B P (S b) b (wit B b) h i 10 + 10 * (100 - sq B) * knO B P (S b) b (wit B b) h i (tdM B h)))) ∧ ρ' = ρ ∧ CF (cLr 279) σ0 σ') := by
  have n6 := hW.2.1
  have n8 := hW.1
  have n100 := hW.2.2.2.2
  have fr : ∀ (σ σ1 : St), CF (cLr 279) σ σ1 → CRd ρ σ q B → CPl σ 32 B P → CStr σ S → σ.1 32 0 = nI h → CRd ρ σ1 q B ∧ CPl σ1 32 B P ∧ CStr σ1 S ∧ σ1.1 32 0 = nI h := fun σ σ1 s h1 h2 h3 h4 => ⟨h1.cr row279 s, h2.cf s (fun j => cLr_f (by omega) (by omega)) (fun j => cLr_f (by omega) (by omega)) (fun j => cLr_f (by omega) (by omega)), fun b hb => (h3 b hb).cl s (fun j => cLr_f (by omega) (by omega)), by rw [s.1 32 _ rfl]; exact h4⟩
  intro m
  induction m with
  | zero =>
    intro k σ hk hs hR hc hS hhr
    have hk : k = 10 := by omega
    subst hk
    have hρ := hR.1
    refine Ev_iload rfl rfl ?_
    refine Ev_const rfl ?_
    refine Ev_icmp_gt rfl (fun h21 => ?_) (fun h21 => absurd (by decide) h21)
    refine Ev_iload rfl rfl ?_
    refine Ev_const rfl ?_
    refine Ev_const rfl ?_
    refine Ev_iload rfl rfl ?_
    refine Ev_isub rfl ?_
    refine Ev_norm (pk_sub (a := 100) (b := sq B) (by omega) : _ = nI (100 - sq B)) ?_
    refine Ev_imul rfl ?_
    refine Ev_norm (pk_mul 10 (100 - sq B) : _ = nI (10 * (100 - sq B))) ?_
    refine Ev_aload rfl rfl rfl ?_
    refine Ev_iload rfl rfl ?_
    refine Ev_iload rfl rfl ?_
    refine Ev_aload rfl rfl rfl ?_
    refine Ev_getR rfl (by first | rfl | assumption) (hρ _ _ _ rfl) ?_
    refine Ev_aload rfl rfl rfl ?_
    refine Ev_getR rfl (by first | rfl | assumption) (hρ _ _ _ rfl) ?_
    refine Ev_getI rfl (by first | rfl | assumption) ?_
    refine Ev_norm hhr ?_
    refine Ev_callV rfl rfl rfl rfl rfl (same_n 402) (t_tideAt _ hR hWf (by omega)) ?_
    rintro v68 ρ68 σ68 ⟨rfl, e68, s68, -, -⟩
    obtain rfl := e68.symm
    have s68r : CF (cLr 279) σ σ68 := s68.wk (fun _ _ h => cL_r h)
    obtain ⟨g1, g2, g3, g4⟩ := fr σ σ68 s68r hR hc hS hhr
    refine Ev_callV rfl rfl rfl rfl rfl (same_n 402) (t_knownBy _ g1 hW hWt hWf hP g2 g3 hSw g4 hh (tdM_le B h) hb hi) ?_
    rintro v71 ρ71 σ71 ⟨rfl, e71, s71⟩
    obtain rfl := e71.symm
    refine Ev_imul rfl ?_
    refine Ev_norm (pk_mul _ _) ?_
    refine Ev_iadd rfl ?_
    refine Ev_norm (nI_add _ _) ?_
    exact Ev_ireturn rfl rfl rfl rfl ⟨rfl, rfl, (hs.tr s68r).tr s71⟩
  | succ m ih =>
    intro k σ hk hs hR hc hS hhr
    refine Ev_iload rfl rfl ?_
    refine Ev_const rfl ?_
    refine Ev_icmp_gt rfl (fun h21 => absurd h21 (nI_nlt (a := 9) (b := k) (by omega) (by decide))) (fun h21 => ?_)
    refine Ev_iload rfl rfl ?_
    refine Ev_iload rfl rfl ?_
    refine Ev_aload rfl rfl rfl ?_
    refine Ev_iload rfl rfl ?_
    refine Ev_iload rfl rfl ?_
    refine Ev_iload rfl rfl ?_
    refine Ev_callV rfl rfl rfl rfl rfl (same_n 402) (t_knownBy _ hR hW hWt hWf hP hc hS hSw hhr hh (t := k) (by omega) hb hi) ?_
    rintro v32 ρ32 σ32 ⟨rfl, e32, s32⟩
    obtain rfl := e32.symm
    obtain ⟨g1, g2, g3, g4⟩ := fr σ σ32 s32 hR hc hS hhr
    refine Ev_imul rfl ?_
    refine Ev_norm (pk_mul _ _) ?_
    refine Ev_iadd rfl ?_
    refine Ev_norm (nI_add _ _) ?_
    refine Ev_istore rfl ?_
    refine Ev_iincE rfl rfl (nI_1 k) ?_
    refine Ev_goto rfl ?_
    exact ih (k + 1) σ32 (by omega) (hs.tr s32) g1 g2 g3 g4
theorem t_countOdds (d : Nat) {σ : St} {b i h : Nat} {S : Str} {P : Nat → Nat} (hR : CRd ρ σ q B) (hW : WfN B) (hWt : WfT B) (hWf : WfF B) (hP : WfP B P) (hc : CPl σ 32 B P) (hS : CStr σ S) (hSw : WfS B S) (hhr : σ.1 32 0 = nI h) (hh : h ≤ 999) (hb : b < nb B) (hi : i < ni B) :
    T l X (d + 7) 26 [.ref 267, .int (nI b), .int (nI i)] 402 402 ρ σ (fun v ρ' σ' => v = some (.int (nI (odK B P (S b) b (wit B b) h i 10 + 10 * (100 - sq B) * knO B P (S b) b (wit B b) h i (tdM B h)))) ∧ ρ' = ρ ∧ CF (cLr 279) σ σ') := by
  have hρ := hR.1
  refine T_of rfl ?_
  refine Ev_aload rfl rfl rfl ?_
  refine Ev_getR rfl (by first | rfl | assumption) (hρ _ _ _ rfl) ?_
  refine Ev_getR rfl (by first | rfl | assumption) hR.2.2.1 ?_
  refine Ev_getI rfl (by rcases hR.2.1 with rfl | rfl <;> rfl) ?_
  refine Ev_norm hR.2.2.2.1.2.2.2.2 ?_
  refine Ev_istore rfl ?_
  refine Ev_const rfl ?_
  refine Ev_istore rfl ?_
  refine Ev_const rfl ?_
  refine Ev_istore rfl ?_
  exact co_loop hW hWt hWf hP hSw hh hb hi σ 10 0 σ (by omega) (CF.rf _ _) hR hc hS hhr
end S69
