/-! How soon he knows, how long he keeps it, by what chance. -/
def fstK (f : Nat → Nat) : Nat → Nat → Option Nat
  | 0, k => if 0 < f k then some k else none
  | m + 1, k => if 0 < f k then some k else fstK f m (k + 1)
def lstK (f : Nat → Nat) : Nat → Nat → Nat
  | 0, k => k
  | m + 1, k => if f (k + 1) = 0 then k else lstK f m (k + 1)
def fdI (B : Bh) (b w h : Nat) : Nat → (Nat → Nat) → Nat → Nat
  | 0, row => row
  | n + 1, row => fadR B (fdI B b w h n row) b w (h + n) (-1)
theorem fdI_w {B : Bh} {b w h : Nat} {row : Nat → Nat} (hr : Rw8 B row) (n : Nat) : Rw8 B (fdI B b w h n row) := by
  induction n with
  | zero => exact hr
  | succ n ih => exact ⟨fun j => fadR_le (ih.1 j), fun i hi => fadR_0 (ih.2 i hi)⟩
def most60 (h : Nat) (m : Nat) : Nat := if 999 - h < m then 999 - h else m
theorem MTh.hg {σ0 σ : St} {B : Bh} {S : Str} {W : Nat → Nat} {h t : Nat} {P : Nat → Nat} {K : Nat × (Nat → Nat)} {ρ ρ' : Rf} {v : Option Value} {σ' : St} (hW : WfN B) (H : MTh σ0 B S W h P σ) (hq : HgQ B P S W h t true K ρ σ v ρ' σ') : MTh σ0 B (hrS B P S W h t) W (h + 1) P σ' := by
  obtain ⟨h1, h2, h3, h4, h5, h6, h7⟩ := H
  obtain ⟨-, -, q1, q2, q3, q4, q5, q6⟩ := hq
  have n16 := hW.2.2.2.1
  exact ⟨h1.tr (mf_ti q1), q2, fun j hj => by rw [q3 _ (by omega) (by omega)]; exact h3 j hj, q5.1 rfl, fun j hj => by rw [q4 rfl j hj]; exact h5 j hj, fun j hj => by rw [q1.1 366 (by decide) rfl]; exact h6 j hj, h7.ti (mf_ti q1)⟩
section S68
variable {l : Launch} {X : Cx} {ρ : Rf} {B : Bh} {q : Nat}
theorem t_hoursToCome (d : Nat) {σ : St} {h m : Nat} (hρ : RF ρ) (hhr : σ.1 32 0 = nI h) (hh : h ≤ 999) (hm : m ≤ 1000) : T l X (d + 1) 11 [.ref 267, .int (nI m)] 402 402 ρ σ (Rs (.int (nI (most60 h m))) ρ σ) := by
  refine T_of rfl ?_
  refine Ev_iload rfl rfl ?_
  refine Ev_const rfl ?_
  refine Ev_aload rfl rfl rfl ?_
  refine Ev_getR rfl (by first | rfl | assumption) (hρ _ _ _ rfl) ?_
  refine Ev_getI rfl (by first | rfl | assumption) ?_
  refine Ev_norm hhr ?_
  refine Ev_isub rfl ?_
  refine Ev_norm (pk_sub (a := 999) (b := h) (by omega) : _ = nI (999 - h)) ?_
  refine Ev_callS rfl rfl rfl rfl (same_n 402) (t_min _ _ _) ?_
  rintro v12 ρ12 σ12 ⟨rfl, e12, g12⟩
  obtain rfl := e12.symm
  obtain rfl := g12.symm
  refine Ev_norm (show _ = nI (most60 h m) by
  unfold most60
  by_cases hc : 999 - h < m
  · rw [if_pos hc, if_pos (nI_lt hc (by omega))]
  · rw [if_neg hc, if_neg (nI_nlt (by omega) (by omega))]) ?_
  exact Ev_ireturn rfl rfl rfl rfl ⟨rfl, rfl, rfl⟩
theorem fk_loop {d b i h N : Nat} {row P : Nat → Nat} (hW : WfN B) (hWt : WfT B) (hWf : WfF B) (hP : WfP B P) (h8 : Rw8 B row) (hh : h + N ≤ 1999) (hb : b < nb B) (hi : i < ni B) (σ0 : St) :
    ∀ (m k : Nat) (σ : St) (L : Value), k + m = N → CF (cLr 279) σ0 σ → CRd ρ σ q B → CPl σ 32 B P → σ.1 32 0 = nI h → RowR σ 279 (advB B P b (wit B b) h k row) →
    Ev l X (d + 6) 14 26 [.ref 267, .int (nI b), .int (nI i), .int (nI N), .int (nI k), L] [] 402 402 402 ρ σ (fun v ρ' σ' => v = some (.int (plV (fstK (fun n => advB B P b (wit B b) h n row i) m k))) ∧ ρ' = ρ ∧ CF (cLr 279) σ0 σ') := by
  have n6 := hW.2.1
  have n8 := hW.1
  intro m
  induction m with
  | zero =>
    intro k σ L hk hs hR hc hhr hrow
    have hk : k = N := by omega
    subst hk
    have hρ := hR.1
    have h99 := (advB_w (b := b) (w := wit B b) (h := h) hP h8 k).1 i
    refine Ev_iload rfl rfl ?_
    refine Ev_iload rfl rfl ?_
    refine Ev_icmp_gt rfl (fun h29 => absurd h29 (nI_nlt (Nat.le_refl _) (by omega))) (fun h29 => ?_)
    refine Ev_aload rfl rfl rfl ?_
    refine Ev_getR rfl (by first | rfl | assumption) (hρ _ _ _ rfl) ?_
    refine Ev_iload rfl rfl ?_
    refine Ev_iald rfl (by first | rfl | assumption) (vp_in_nI (n := i) (show i < 8 by omega) (by decide)) ?_
    refine Ev_norm (by rw [nI_clamp (by omega)]; exact hrow i (by omega) : _ = nI (advB B P b (wit B b) h k row i)) ?_
    refine Ev_if_le rfl (fun h38 => ?_) (fun h38 => ?_)
    · refine Ev_aload rfl rfl rfl ?_
      refine Ev_getR rfl (by first | rfl | assumption) (hρ _ _ _ rfl) ?_
      refine Ev_getI rfl (by first | rfl | assumption) ?_
      refine Ev_norm hhr ?_
      refine Ev_iload rfl rfl ?_
      refine Ev_iadd rfl ?_
      refine Ev_norm (nI_add h k) ?_
      refine Ev_istore rfl ?_
      refine Ev_aload rfl rfl rfl ?_
      refine Ev_getR rfl (by first | rfl | assumption) (hρ _ _ _ rfl) ?_
      refine Ev_aload rfl rfl rfl ?_
      refine Ev_getR rfl (by first | rfl | assumption) (hρ _ _ _ rfl) ?_
      refine Ev_iload rfl rfl ?_
      refine Ev_aload rfl rfl rfl ?_
      refine Ev_getR rfl (by first | rfl | assumption) (hρ _ _ _ rfl) ?_
      refine Ev_getR rfl (by first | rfl | assumption) hR.2.2.1 ?_
      refine Ev_getR rfl (by rcases hR.2.1 with rfl | rfl <;> rfl) (by rcases hR.2.1 with rfl | rfl <;> exact hρ _ _ _ rfl : _ = some (q + 7)) ?_
      refine Ev_iload rfl rfl ?_
      refine Ev_iald rfl (by rcases hR.2.1 with rfl | rfl <;> rfl) (by rcases hR.2.1 with rfl | rfl <;> exact vp_in_nI (n := b) (show b < 6 by omega) (by decide)) ?_
      refine Ev_norm (by rw [nI_clamp (by omega)]; exact ev_wit hR hb : _ = nI (wit B b)) ?_
      refine Ev_iload rfl rfl ?_
      refine Ev_aload rfl rfl rfl ?_
      refine Ev_getR rfl (by first | rfl | assumption) (hρ _ _ _ rfl) ?_
      refine Ev_iload rfl rfl ?_
      refine Ev_iload rfl rfl ?_
      refine Ev_callV rfl rfl rfl rfl rfl (same_n 402) (t_plannedFor _ hρ (Or.inl rfl) hW hP hc (by omega) hb) ?_
      rintro v86 ρ86 σ86 ⟨rfl, e86, g86⟩
      obtain rfl := e86.symm
      obtain rfl := g86.symm
      refine Ev_const rfl ?_
      refine Ev_callV rfl rfl rfl rfl rfl (same_n 402) (t_passA _ hR hW hWt hWf row279 hrow (advB_w hP h8 k) (hWt.2.1 b hb).2 (by omega) hb (pfM_i hP)) ?_
      rintro v90 ρ90 σ90 ⟨⟨x90, rfl⟩, e90, s90, r90⟩
      obtain rfl := e90.symm
      refine Ev_pop rfl (fun _ q => nomatch q) ?_
      refine Ev_iincE rfl rfl (nI_1 k) ?_
      refine Ev_goto rfl ?_
      have hz : ¬ 0 < advB B P b (wit B b) h k row i := fun z => absurd h38 (nI_nle z (by omega))
      refine Ev_iload rfl rfl ?_
      refine Ev_iload rfl rfl ?_
      refine Ev_icmp_gt rfl (fun h29 => ?_) (fun h29 => absurd (nI_lt (Nat.lt_succ_self k) (by omega)) h29)
      refine Ev_const rfl ?_
      exact Ev_ireturn rfl rfl rfl rfl ⟨by unfold fstK; rw [if_neg hz]; rfl, rfl, hs.tr s90⟩
    · refine Ev_iload rfl rfl ?_
      exact Ev_ireturn rfl rfl rfl rfl ⟨by unfold fstK; rw [if_pos (Nat.pos_of_ne_zero (fun z => h38 (by rw [z]; decide)))]; rfl, rfl, hs⟩
  | succ m ih =>
    intro k σ L hk hs hR hc hhr hrow
    have hρ := hR.1
    have h99 := (advB_w (b := b) (w := wit B b) (h := h) hP h8 k).1 i
    refine Ev_iload rfl rfl ?_
    refine Ev_iload rfl rfl ?_
    refine Ev_icmp_gt rfl (fun h29 => absurd h29 (nI_nlt (by omega) (by omega))) (fun h29 => ?_)
    refine Ev_aload rfl rfl rfl ?_
    refine Ev_getR rfl (by first | rfl | assumption) (hρ _ _ _ rfl) ?_
    refine Ev_iload rfl rfl ?_
    refine Ev_iald rfl (by first | rfl | assumption) (vp_in_nI (n := i) (show i < 8 by omega) (by decide)) ?_
    refine Ev_norm (by rw [nI_clamp (by omega)]; exact hrow i (by omega) : _ = nI (advB B P b (wit B b) h k row i)) ?_
    refine Ev_if_le rfl (fun h38 => ?_) (fun h38 => ?_)
    · refine Ev_aload rfl rfl rfl ?_
      refine Ev_getR rfl (by first | rfl | assumption) (hρ _ _ _ rfl) ?_
      refine Ev_getI rfl (by first | rfl | assumption) ?_
      refine Ev_norm hhr ?_
      refine Ev_iload rfl rfl ?_
      refine Ev_iadd rfl ?_
      refine Ev_norm (nI_add h k) ?_
      refine Ev_istore rfl ?_
      refine Ev_aload rfl rfl rfl ?_
      refine Ev_getR rfl (by first | rfl | assumption) (hρ _ _ _ rfl) ?_
      refine Ev_aload rfl rfl rfl ?_
      refine Ev_getR rfl (by first | rfl | assumption) (hρ _ _ _ rfl) ?_
      refine Ev_iload rfl rfl ?_
      refine Ev_aload rfl rfl rfl ?_
      refine Ev_getR rfl (by first | rfl | assumption) (hρ _ _ _ rfl) ?_
      refine Ev_getR rfl (by first | rfl | assumption) hR.2.2.1 ?_
      refine Ev_getR rfl (by rcases hR.2.1 with rfl | rfl <;> rfl) (by rcases hR.2.1 with rfl | rfl <;> exact hρ _ _ _ rfl : _ = some (q + 7)) ?_
      refine Ev_iload rfl rfl ?_
      refine Ev_iald rfl (by rcases hR.2.1 with rfl | rfl <;> rfl) (by rcases hR.2.1 with rfl | rfl <;> exact vp_in_nI (n := b) (show b < 6 by omega) (by decide)) ?_
      refine Ev_norm (by rw [nI_clamp (by omega)]; exact ev_wit hR hb : _ = nI (wit B b)) ?_
      refine Ev_iload rfl rfl ?_
      refine Ev_aload rfl rfl rfl ?_
      refine Ev_getR rfl (by first | rfl | assumption) (hρ _ _ _ rfl) ?_
      refine Ev_iload rfl rfl ?_
      refine Ev_iload rfl rfl ?_
      refine Ev_callV rfl rfl rfl rfl rfl (same_n 402) (t_plannedFor _ hρ (Or.inl rfl) hW hP hc (by omega) hb) ?_
      rintro v86 ρ86 σ86 ⟨rfl, e86, g86⟩
      obtain rfl := e86.symm
      obtain rfl := g86.symm
      refine Ev_const rfl ?_
      refine Ev_callV rfl rfl rfl rfl rfl (same_n 402) (t_passA _ hR hW hWt hWf row279 hrow (advB_w hP h8 k) (hWt.2.1 b hb).2 (by omega) hb (pfM_i hP)) ?_
      rintro v90 ρ90 σ90 ⟨⟨x90, rfl⟩, e90, s90, r90⟩
      obtain rfl := e90.symm
      refine Ev_pop rfl (fun _ q => nomatch q) ?_
      refine Ev_iincE rfl rfl (nI_1 k) ?_
      refine Ev_goto rfl ?_
      have hz : ¬ 0 < advB B P b (wit B b) h k row i := fun z => absurd h38 (nI_nle z (by omega))
      have := ih (k + 1) σ90 (.int (nI (h + k))) (by omega) (hs.tr s90) (hR.cr row279 s90) (hc.cf s90 (fun j => cLr_f (by omega) (by omega)) (fun j => cLr_f (by omega) (by omega)) (fun j => cLr_f (by omega) (by omega))) (by rw [s90.1 32 _ rfl]; exact hhr) r90
      unfold fstK
      simp only [if_neg hz]
      exact this
    · refine Ev_iload rfl rfl ?_
      exact Ev_ireturn rfl rfl rfl rfl ⟨by unfold fstK; rw [if_pos (Nat.pos_of_ne_zero (fun z => h38 (by rw [z]; decide)))]; rfl, rfl, hs⟩
theorem t_firstKnown (d : Nat) {σ : St} {b i h : Nat} {S : Str} {P : Nat → Nat} (hR : CRd ρ σ q B) (hW : WfN B) (hWt : WfT B) (hWf : WfF B) (hP : WfP B P) (hc : CPl σ 32 B P) (hS : CStr σ S) (hSw : WfS B S) (hhr : σ.1 32 0 = nI h) (hh : h ≤ 999) (hb : b < nb B) (hi : i < ni B) :
    T l X (d + 6) 14 [.ref 267, .int (nI b), .int (nI i)] 402 402 ρ σ (fun v ρ' σ' => v = some (.int (plV (fstK (fun n => advB B P b (wit B b) h n (S b) i) (most60 h 60) 0))) ∧ ρ' = ρ ∧ CF (cLr 279) σ σ') := by
  have hρ := hR.1
  have n6 := hW.2.1
  have hm : most60 h 60 ≤ 60 := by unfold most60; split <;> omega
  refine T_of rfl ?_
  refine Ev_aload rfl rfl rfl ?_
  refine Ev_getR rfl (by first | rfl | assumption) (hρ _ _ _ rfl) ?_
  refine Ev_getR rfl (by first | rfl | assumption) (hρ _ _ _ rfl) ?_
  refine Ev_iload rfl rfl ?_
  refine Ev_aald (t := 4) rfl (Or.inl rfl) (by first | rfl | assumption) (vp_in_nI (n := b) (show b < 6 by omega) (by decide)) (by rw [nI_clamp (by omega)]; exact rf33 hρ (by omega) : _ = some (34 + b)) ?_
  refine Ev_aload rfl rfl rfl ?_
  refine Ev_getR rfl (by first | rfl | assumption) (hρ _ _ _ rfl) ?_
  refine Ev_callS rfl rfl rfl rfl (same_n 402) (t_copyRow _ (rowN (show b < 6 by omega)).1 rfl (rowN (show b < 6 by omega)).2.1 rfl (by decide)) ?_
  rintro v13 ρ13 σ13 ⟨rfl, e13, f, hf, f1, f2⟩
  obtain rfl := e13.symm
  subst hf
  have s1 : CF (cLr 279) σ (sI σ 279 f) := CF.cell σ f (fun j => cLr_self 279 j)
  refine Ev_aload rfl rfl rfl ?_
  refine Ev_const rfl ?_
  refine Ev_callV rfl rfl rfl rfl rfl (same_n 402) (t_hoursToCome _ (m := 60) hρ (by rw [s1.1 32 _ rfl]; exact hhr) hh (by decide)) ?_
  rintro v19 ρ19 σ19 ⟨rfl, e19, g19⟩
  obtain rfl := e19.symm
  obtain rfl := g19.symm
  refine Ev_istore rfl ?_
  refine Ev_const rfl ?_
  refine Ev_istore rfl ?_
  exact fk_loop hW hWt hWf hP (hSw.row b) (by omega) hb hi σ (most60 h 60) 0 _ _ (by omega) s1 (hR.cr row279 s1) (hc.cf s1 (fun j => cLr_f (by omega) (by omega)) (fun j => cLr_f (by omega) (by omega)) (fun j => cLr_f (by omega) (by omega))) (by rw [s1.1 32 _ rfl]; exact hhr) (fun i hi => by rw [sR_0, f1 i hi]; exact hS b (by omega) i hi)
end S68
