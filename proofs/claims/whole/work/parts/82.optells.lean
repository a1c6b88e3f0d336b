/-! The call tells. -/
def stT (k i x : Nat) (T : Nat × Nat × Nat) : Nat × Nat × Nat := if x < T.1 then (x, k, i) else T
def tlI (L : Nat) (G : Nat → Nat → Nat) (k : Nat) : Nat → Nat × Nat × Nat → Nat × Nat × Nat
  | 0, T => T
  | i + 1, T => stT k i (mxA L (fun w => G w i) 10) (tlI L G k i T)
def tlO (L : Nat) (G : Nat → Nat → Nat → Nat) (ni : Nat) : Nat → Nat × Nat × Nat
  | 0 => (11, 0, 0)
  | k + 1 => tlI L (fun w => G w (k + 1)) (k + 1) ni (tlO L G ni k)
def TOk (n k : Nat) (T : Nat × Nat × Nat) : Prop := T.1 ≤ 11 ∧ T.2.1 ≤ k ∧ T.2.2 ≤ n
theorem stT_ok {n k i x : Nat} {T : Nat × Nat × Nat} (hT : TOk n k T) (hi : i < n) (hx : x ≤ 10) : TOk n k (stT k i x T) := by
  unfold stT
  split
  · exact ⟨Nat.le_succ_of_le hx, Nat.le_refl _, Nat.le_of_lt hi⟩
  · exact hT
theorem tlI_ok {L : Nat} {G : Nat → Nat → Nat} {n k : Nat} {T : Nat × Nat × Nat} (hT : TOk n k T) : ∀ i, i ≤ n → TOk n k (tlI L G k i T) := by
  intro i
  induction i with
  | zero => intro _; exact hT
  | succ i ih => intro hi; exact stT_ok (ih (by omega)) (by omega) (mxA_le _ _ _)
theorem tlO_ok {L : Nat} {G : Nat → Nat → Nat → Nat} {n : Nat} : ∀ k, TOk n k (tlO L G n k) := by
  intro k
  induction k with
  | zero => exact ⟨Nat.le_refl _, Nat.le_refl _, Nat.zero_le _⟩
  | succ k ih => exact tlI_ok ⟨ih.1, Nat.le_succ_of_le ih.2.1, ih.2.2⟩ n (Nat.le_refl _)
theorem tlI_10 {L : Nat} {G : Nat → Nat → Nat} {k : Nat} {T : Nat × Nat × Nat} : ∀ i, (T.1 ≤ 10 ∨ 0 < i) → T.1 ≤ 11 → (tlI L G k i T).1 ≤ 10 := by
  intro i
  induction i with
  | zero => intro h _; rcases h with h | h
            · exact h
            · exact absurd h (Nat.lt_irrefl _)
  | succ i ih =>
    intro h h1
    have hx := mxA_le L (fun w => G w i) 10
    show (stT k i (mxA L (fun w => G w i) 10) (tlI L G k i T)).1 ≤ 10
    unfold stT
    split
    · exact hx
    · rename_i hq
      exact Nat.le_trans (Nat.not_lt.mp hq) hx
theorem tlO_10 {L : Nat} {G : Nat → Nat → Nat → Nat} {n k : Nat} (hk : 0 < k) (hn : 0 < n) : (tlO L G n k).1 ≤ 10 := by
  cases k with
  | zero => exact absurd hk (Nat.lt_irrefl _)
  | succ k => exact tlI_10 n (Or.inr hn) (tlO_ok k).1
section S82
variable {l : Launch} {X : Cx} {ρ : Rf} {B : Bh} {q : Nat}
/-- what stands still in the class -/
def StT (ρ : Rf) (σ : St) (q : Nat) (B : Bh) (S : Str) (P : Nat → Nat) (h : Nat) : Prop := CRd ρ σ q B ∧ CPl σ 32 B P ∧ CStr σ S ∧ σ.1 32 0 = nI h
theorem StT.cx {σ σ' : St} {S : Str} {P : Nat → Nat} {h : Nat} (H : StT ρ σ q B S P h) (s : CF cX σ σ') : StT ρ σ' q B S P h := by
  obtain ⟨h1, h2, h3, h4⟩ := H
  refine ⟨h1.cf s (fun k j hk => ?_) rfl, h2.cf s (fun j => cX_f (by omega)) (fun j => cX_f (by omega)) (fun j => cX_f (by omega)), fun b hb => (h3 b hb).cl s (fun j => cX_f (by omega)), by rw [s.1 32 _ rfl]; exact h4⟩
  unfold cB at hk
  simp only [Bool.and_eq_true, Bool.not_eq_true', Nat.blt_eq] at hk
  exact cX_f ⟨fun z => by rw [z] at hk; exact absurd hk.1.2 (by decide), fun z => by rw [z] at hk; exact absurd hk.2 (by decide), by omega, by omega, by omega⟩
theorem cR_X2 {k j w : Nat} (hw : w < 10) (h : cX k j = false) : cLr (305 + w) k j = false := by
  unfold cLr
  rw [cL_X h]
  apply nbeq
  intro z
  subst z
  unfold cX at h
  rw [Bool.or_eq_false_iff] at h
  have h2 := h.2
  rw [Nat.ble_eq_true_of_le (show 267 ≤ 305 + w by omega), Nat.ble_eq_true_of_le (show 305 + w ≤ 314 by omega), nbeq (show 305 + w ≠ 267 by omega)] at h2
  cases h2
theorem cX_g {w j : Nat} (hw : w < 10) : cX (305 + w) j = true := by
  cases h : cX (305 + w) j
  · have := cR_X2 hw h
    rw [cLr_self] at this
    cases this
  · rfl
def TeR (σ : St) (T : Nat × Nat × Nat) : Prop := σ.1 267 18 = nI T.1 ∧ (T.1 = 11 ∨ σ.1 267 16 = nI T.2.1 ∧ σ.1 267 17 = nI T.2.2)
theorem TeR.cl {C : Nat → Nat → Bool} {σ σ' : St} {T : Nat × Nat × Nat} (H : TeR σ T) (hs : CF C σ σ') (hC : ∀ j, C 267 j = false) : TeR σ' T := by
  unfold TeR
  rw [hs.1 267 _ (hC _), hs.1 267 _ (hC _), hs.1 267 _ (hC _)]; exact H
theorem ft_copy {d b L : Nat} {σ0 : St} {S : Str} {P : Nat → Nat} {h : Nat} {Q : Po} (hb : b < 6)
    (hQ : ∀ σ, CF cX σ0 σ → StT ρ σ q B S P h → TeR σ (11, 0, 0) → (∀ w, w < 10 → RowR σ (305 + w) (S b)) → Ev l X (d + 7) 30 38 [.ref 267, .int (nI b), .int (nI L), .int (nI 10), .float 0, .float 0, .float 0, .float 0, .float 0] [] 402 402 402 ρ σ Q) :
    ∀ (m n : Nat) (σ : St), n + m = 10 → CF cX σ0 σ → StT ρ σ q B S P h → TeR σ (11, 0, 0) → (∀ w, w < n → RowR σ (305 + w) (S b)) → Ev l X (d + 7) 30 8 [.ref 267, .int (nI b), .int (nI L), .int (nI n), .float 0, .float 0, .float 0, .float 0, .float 0] [] 402 402 402 ρ σ Q := by
  intro m
  induction m with
  | zero =>
    intro n σ hn hs H ht hg
    have hn : n = 10 := by omega
    subst hn
    refine Ev_iload rfl rfl ?_
    refine Ev_const rfl ?_
    refine Ev_icmp_ge rfl (fun h11 => ?_) (fun h11 => absurd (by decide) h11)
    exact hQ σ hs H ht hg
  | succ m ih =>
    intro n σ hn hs H ht hg
    have hρ := H.1.1
    have h10 : n < 10 := by omega
    refine Ev_iload rfl rfl ?_
    refine Ev_const rfl ?_
    refine Ev_icmp_ge rfl (fun h11 => absurd h11 (nI_ge (b := 10) (by omega) (by decide))) (fun h11 => ?_)
    refine Ev_aload rfl rfl rfl ?_
    refine Ev_getR rfl (by first | rfl | assumption) (hρ _ _ _ rfl) ?_
    refine Ev_getR rfl (by first | rfl | assumption) (hρ _ _ _ rfl) ?_
    refine Ev_iload rfl rfl ?_
    refine Ev_aald (t := 4) rfl (Or.inl rfl) (by first | rfl | assumption) (vp_in_nI (n := b) (show b < 6 by omega) (by decide)) (by rw [nI_clamp (by omega)]; exact rf33 hρ (by omega) : _ = some (34 + b)) ?_
    refine Ev_aload rfl rfl rfl ?_
    refine Ev_getR rfl (by first | rfl | assumption) (hρ _ _ _ rfl) ?_
    refine Ev_iload rfl rfl ?_
    refine Ev_aald (t := 4) rfl (Or.inl rfl) (by first | rfl | assumption) (vp_in_nI (n := n) (show n < 10 by omega) (by decide)) (by rw [nI_clamp (by omega)]; exact rf304 hρ h10 : _ = some (305 + n)) ?_
    refine Ev_callS rfl rfl rfl rfl (same_n 402) (t_copyRow _ (rowN hb).1 (rowG h10).1 (rowN hb).2.1 (rowG h10).2.1 (by decide)) ?_
    rintro v29 ρ29 σ29 ⟨rfl, e29, f, hf, f1, f2⟩
    obtain rfl := e29.symm
    subst hf
    refine Ev_iincE rfl rfl (nI_1 n) ?_
    refine Ev_goto rfl ?_
    have s1 : CF cX σ (sI σ (305 + n) f) := CF.cell σ f (fun j => cX_g h10)
    refine ih (n + 1) _ (by omega) (hs.tr s1) (H.cx s1) ?_ (fun w hw => ?_)
    · unfold TeR; rw [sR_1 _ _ (by omega)]; exact ht
    · by_cases hq : w = n
      · subst hq; exact fun i hi => by rw [sR_0, f1 i hi]; exact H.2.2.1 b hb i hi
      · exact fun i hi => by rw [sR_1 _ _ (by omega)]; exact hg w (by omega) i hi
theorem ft_pass {d b L N k h : Nat} {σ0 : St} {S : Str} {P : Nat → Nat} {T : Nat × Nat × Nat} {z : Value} {Q : Po} (hW : WfN B) (hWt : WfT B) (hWf : WfF B) (hP : WfP B P) (hSw : WfS B S) (hb : b < nb B) (hh : h + k < 2000)
    (hQ : ∀ σ, CF cX σ0 σ → StT ρ σ q B S P h → TeR σ T → (∀ w, w < 10 → RowR σ (305 + w) (advB B P b w h (k + 1) (S b))) → Ev l X (d + 7) 30 119 [.ref 267, .int (nI b), .int (nI L), .int (nI N), .int (nI (k + 1)), .int (nI (h + k)), .int (plV (pfM B P (h + k) b)), .int (nI 10), z] [] 402 402 402 ρ σ Q) :
    ∀ (m n : Nat) (σ : St), n + m = 10 → CF cX σ0 σ → StT ρ σ q B S P h → TeR σ T → (∀ w, w < 10 → RowR σ (305 + w) (advB B P b w h (if w < n then k + 1 else k) (S b))) → Ev l X (d + 7) 30 83 [.ref 267, .int (nI b), .int (nI L), .int (nI N), .int (nI (k + 1)), .int (nI (h + k)), .int (plV (pfM B P (h + k) b)), .int (nI n), z] [] 402 402 402 ρ σ Q := by
  intro m
  induction m with
  | zero =>
    intro n σ hn hs H ht hg
    have hn : n = 10 := by omega
    subst hn
    refine Ev_iload rfl rfl ?_
    refine Ev_const rfl ?_
    refine Ev_icmp_ge rfl (fun h87 => ?_) (fun h87 => absurd (by decide) h87)
    exact hQ σ hs H ht (fun w hw => by have := hg w hw; rwa [if_pos hw] at this)
  | succ m ih =>
    intro n σ hn hs H ht hg
    have hρ := H.1.1
    have h10 : n < 10 := by omega
    have hr := hg n h10
    rw [if_neg (Nat.lt_irrefl _)] at hr
    refine Ev_iload rfl rfl ?_
    refine Ev_const rfl ?_
    refine Ev_icmp_ge rfl (fun h87 => absurd h87 (nI_ge (b := 10) (by omega) (by decide))) (fun h87 => ?_)
    refine Ev_aload rfl rfl rfl ?_
    refine Ev_getR rfl (by first | rfl | assumption) (hρ _ _ _ rfl) ?_
    refine Ev_aload rfl rfl rfl ?_
    refine Ev_getR rfl (by first | rfl | assumption) (hρ _ _ _ rfl) ?_
    refine Ev_iload rfl rfl ?_
    refine Ev_aald (t := 4) rfl (Or.inl rfl) (by first | rfl | assumption) (vp_in_nI (n := n) (show n < 10 by omega) (by decide)) (by rw [nI_clamp (by omega)]; exact rf304 hρ h10 : _ = some (305 + n)) ?_
    refine Ev_iload rfl rfl ?_
    refine Ev_iload rfl rfl ?_
    refine Ev_iload rfl rfl ?_
    refine Ev_iload rfl rfl ?_
    refine Ev_const rfl ?_
    refine Ev_callV rfl rfl rfl rfl rfl (same_n 402) (t_passA _ H.1 hW hWt hWf (rowG h10) hr (advB_w hP (hSw.row b) k) (by omega) (by omega) hb (pfM_i hP)) ?_
    rintro v109 ρ109 σ109 ⟨⟨x109, rfl⟩, e109, s109, r109⟩
    obtain rfl := e109.symm
    refine Ev_pop rfl (fun _ q => nomatch q) ?_
    refine Ev_iincE rfl rfl (nI_1 n) ?_
    refine Ev_goto rfl ?_
    have s1 : CF cX σ σ109 := s109.wk (fun _ _ h => cR_X2 h10 h)
    refine ih (n + 1) _ (by omega) (hs.tr s1) (H.cx s1) (ht.cl s109 (fun j => cLr_f (by omega) (by omega))) (fun w hw => ?_)
    by_cases hq : w = n
    · subst hq
      rw [if_pos (Nat.lt_succ_self _)]
      exact r109
    · have := (hg w hw).cl s109 (fun j => cLr_f (by omega) (by omega))
      by_cases hq2 : w < n
      · rw [if_pos (by omega)]; rwa [if_pos hq2] at this
      · rw [if_neg (by omega)]; rwa [if_neg hq2] at this
theorem ft_ideas {d b L N k h : Nat} {σ0 : St} {S : Str} {P : Nat → Nat} {T : Nat × Nat × Nat} {G : Nat → Nat → Nat} {x5 x6 : Int32} {Q : Po} (hW : WfN B) (hL : L < 1024) (h99 : ∀ w i, G w i ≤ 99) (hT : TOk (ni B) k T)
    (hQ : ∀ σ z, CF cX σ0 σ → StT ρ σ q B S P h → TeR σ (tlI L G k (ni B) T) → (∀ w, w < 10 → RowR σ (305 + w) (G w)) → Ev l X (d + 7) 30 179 [.ref 267, .int (nI b), .int (nI L), .int (nI N), .int (nI k), .int x5, .int x6, .int (nI (ni B)), z] [] 402 402 402 ρ σ Q) :
    ∀ (m i : Nat) (σ : St) (z : Value), i + m = ni B → CF cX σ0 σ → StT ρ σ q B S P h → TeR σ (tlI L G k i T) → (∀ w, w < 10 → RowR σ (305 + w) (G w)) → Ev l X (d + 7) 30 122 [.ref 267, .int (nI b), .int (nI L), .int (nI N), .int (nI k), .int x5, .int x6, .int (nI i), z] [] 402 402 402 ρ σ Q := by
  have n8 := hW.1
  intro m
  induction m with
  | zero =>
    intro i σ z hi hs H ht hg
    have hi : i = ni B := by omega
    subst hi
    have hρ := H.1.1
    refine Ev_iload rfl rfl ?_
    refine Ev_aload rfl rfl rfl ?_
    refine Ev_getR rfl (by first | rfl | assumption) (hρ _ _ _ rfl) ?_
    refine Ev_getR rfl (by first | rfl | assumption) H.1.2.2.1 ?_
    refine Ev_getI rfl (by rcases H.1.2.1 with rfl | rfl <;> rfl) ?_
    refine Ev_norm H.1.2.2.2.1.1 ?_
    refine Ev_icmp_ge rfl (fun h134 => ?_) (fun h134 => absurd (nI_le (Nat.le_refl _) (by omega)) h134)
    exact hQ σ _ hs H ht hg
  | succ m ih =>
    intro i σ z hi hs H ht hg
    have hρ := H.1.1
    have hx := mxA_le L (fun w => G w i) 10
    have hT1 := (tlI_ok (L := L) (G := G) hT i (by omega)).1
    refine Ev_iload rfl rfl ?_
    refine Ev_aload rfl rfl rfl ?_
    refine Ev_getR rfl (by first | rfl | assumption) (hρ _ _ _ rfl) ?_
    refine Ev_getR rfl (by first | rfl | assumption) H.1.2.2.1 ?_
    refine Ev_getI rfl (by rcases H.1.2.1 with rfl | rfl <;> rfl) ?_
    refine Ev_norm H.1.2.2.2.1.1 ?_
    refine Ev_icmp_ge rfl (fun h134 => absurd h134 (nI_ge (by omega) (by omega))) (fun h134 => ?_)
    refine Ev_aload rfl rfl rfl ?_
    refine Ev_iload rfl rfl ?_
    refine Ev_iload rfl rfl ?_
    refine Ev_callV rfl rfl rfl rfl rfl (same_n 402) (t_mostAlike _ hρ (by omega) hL (g := fun w => G w i) (fun w hw => hg w hw i (by omega)) (fun w => h99 w i)) ?_
    rintro v141 ρ141 σ141 ⟨rfl, e141, g141⟩
    obtain rfl := e141.symm
    obtain rfl := g141.symm
    refine Ev_istore rfl ?_
    refine Ev_iload rfl rfl ?_
    refine Ev_aload rfl rfl rfl ?_
    refine Ev_getI rfl (by first | rfl | assumption) ?_
    refine Ev_norm ht.1 ?_
    refine Ev_icmp_ge rfl (fun h152 => ?_) (fun h152 => ?_)
    · refine Ev_iincE rfl rfl (nI_1 i) ?_
      refine Ev_goto rfl ?_
      refine ih (i + 1) σ _ (by omega) hs H ?_ hg
      show TeR σ (stT k i (mxA L (fun w => G w i) 10) (tlI L G k i T))
      unfold stT
      rw [if_neg (Nat.not_lt.mpr ((nI_leI (by omega) (by omega)).mp h152))]
      exact ht
    · refine Ev_aload rfl rfl rfl ?_
      refine Ev_iload rfl rfl ?_
      refine Ev_putI rfl (by first | rfl | assumption) ⟨rfl, rfl⟩ rfl ?_
      refine Ev_aload rfl rfl rfl ?_
      refine Ev_iload rfl rfl ?_
      refine Ev_putI rfl (by first | rfl | assumption) ⟨rfl, rfl⟩ rfl ?_
      refine Ev_aload rfl rfl rfl ?_
      refine Ev_iload rfl rfl ?_
      refine Ev_putI rfl (by first | rfl | assumption) ⟨rfl, rfl⟩ rfl ?_
      refine Ev_iincE rfl rfl (nI_1 i) ?_
      refine Ev_goto rfl ?_
      have s1 : CF cX σ (sI (sI (sI σ 267 (upd (σ.1 267) 18 (nI (mxA L (fun w => G w i) 10)))) 267 (upd ((sI σ 267 (upd (σ.1 267) 18 (nI (mxA L (fun w => G w i) 10)))).1 267) 16 (nI k))) 267 (upd ((sI (sI σ 267 (upd (σ.1 267) 18 (nI (mxA L (fun w => G w i) 10)))) 267 (upd ((sI σ 267 (upd (σ.1 267) 18 (nI (mxA L (fun w => G w i) 10)))).1 267) 16 (nI k))).1 267) 17 (nI i))) := (CF.put _ _ rfl).tr ((CF.put _ _ rfl).tr (CF.put _ _ rfl))
      refine ih (i + 1) _ _ (by omega) (hs.tr s1) (H.cx s1) ?_ (fun w hw j hj => by rw [sR_1 _ _ (by omega), sR_1 _ _ (by omega), sR_1 _ _ (by omega)]; exact hg w hw j hj)
      show TeR _ (stT k i (mxA L (fun w => G w i) 10) (tlI L G k i T))
      unfold stT
      rw [if_pos (Nat.not_le.mp (fun z => h152 (nI_le z (by omega))))]
      unfold TeR
      rw [sR_0, sR_0, sR_0]
      exact ⟨by rw [pk_un (by decide), pk_un (by decide), pk_us], Or.inr ⟨by rw [pk_un (by decide), pk_us], by rw [pk_us]⟩⟩
theorem ft_hours {d b L N h : Nat} {σ0 : St} {S : Str} {P : Nat → Nat} (hW : WfN B) (hWt : WfT B) (hWf : WfF B) (hP : WfP B P) (hSw : WfS B S) (hb : b < nb B) (hL : L < 1024) (hh : h + N < 2000) :
    ∀ (m k : Nat) (σ : St) (y5 y6 y z : Value), k + m = N → CF cX σ0 σ → StT ρ σ q B S P h → TeR σ (tlO L (fun w k i => advB B P b w h k (S b) i) (ni B) k) → (∀ w, w < 10 → RowR σ (305 + w) (advB B P b w h k (S b))) → Ev l X (d + 7) 30 48 [.ref 267, .int (nI b), .int (nI L), .int (nI N), .int (nI (k + 1)), y5, y6, y, z] [] 402 402 402 ρ σ (fun v ρ' σ' => v = none ∧ ρ' = ρ ∧ CF cX σ0 σ' ∧ TeR σ' (tlO L (fun w k i => advB B P b w h k (S b) i) (ni B) N)) := by
  intro m
  induction m with
  | zero =>
    intro k σ y5 y6 y z hk hs H ht hg
    have hk : k = N := by omega
    subst hk
    refine Ev_iload rfl rfl ?_
    refine Ev_iload rfl rfl ?_
    refine Ev_icmp_gt rfl (fun h51 => ?_) (fun h51 => absurd ((nI_ltI (by omega) (by omega)).mpr (Nat.lt_succ_self k)) h51)
    exact Ev_return rfl rfl rfl ⟨rfl, rfl, hs, ht⟩
  | succ m ih =>
    intro k σ y5 y6 y z hk hs H ht hg
    have hρ := H.1.1
    refine Ev_iload rfl rfl ?_
    refine Ev_iload rfl rfl ?_
    refine Ev_icmp_gt rfl (fun h51 => absurd ((nI_ltI (by omega) (by omega)).mp h51) (by omega)) (fun h51 => ?_)
    refine Ev_aload rfl rfl rfl ?_
    refine Ev_getR rfl (by first | rfl | assumption) (hρ _ _ _ rfl) ?_
    refine Ev_getI rfl (by first | rfl | assumption) ?_
    refine Ev_norm H.2.2.2 ?_
    refine Ev_iload rfl rfl ?_
    refine Ev_iadd rfl ?_
    refine Ev_norm (nI_add h (k + 1)) ?_
    refine Ev_const rfl ?_
    refine Ev_isub rfl ?_
    refine Ev_norm (show _ = nI (h + k) from by rw [show h + (k + 1) = (h + k) + 1 from rfl, ← nI_add]; exact Int32.add_sub_cancel _ _) ?_
    refine Ev_istore rfl ?_
    refine Ev_aload rfl rfl rfl ?_
    refine Ev_getR rfl (by first | rfl | assumption) (hρ _ _ _ rfl) ?_
    refine Ev_iload rfl rfl ?_
    refine Ev_iload rfl rfl ?_
    refine Ev_callV rfl rfl rfl rfl rfl (same_n 402) (t_plannedFor _ hρ (Or.inl rfl) hW hP H.2.1 (by omega) hb) ?_
    rintro v75 ρ75 σ75 ⟨rfl, e75, g75⟩
    obtain rfl := e75.symm
    obtain rfl := g75.symm
    refine Ev_istore rfl ?_
    refine Ev_const rfl ?_
    refine Ev_istore rfl ?_
    refine ft_pass (T := tlO L (fun w k i => advB B P b w h k (S b) i) (ni B) k) hW hWt hWf hP hSw hb (by omega) (fun σ2 hs2 H2 ht2 hg2 => ?_) 10 0 σ (by decide) hs H ht (fun w hw => by rw [if_neg (Nat.not_lt_zero w)]; exact hg w hw)
    refine Ev_const rfl ?_
    refine Ev_istore rfl ?_
    refine ft_ideas (G := fun w i => advB B P b w h (k + 1) (S b) i) hW hL (fun w i => (advB_w hP (hSw.row b) (k + 1)).1 i) ⟨(tlO_ok k).1, Nat.le_succ_of_le (tlO_ok k).2.1, (tlO_ok k).2.2⟩ (fun σ3 z3 hs3 H3 ht3 hg3 => ?_) (ni B) 0 σ2 _ (by omega) hs2 H2 ht2 hg2
    refine Ev_iincE rfl rfl (nI_1 (k + 1)) ?_
    refine Ev_goto rfl ?_
    exact ih (k + 1) σ3 _ _ _ _ (by omega) hs3 H3 ht3 hg3
theorem t_findTelling (d : Nat) {b L h : Nat} {σ : St} {S : Str} {P : Nat → Nat} (hW : WfN B) (hWt : WfT B) (hWf : WfF B) (hP : WfP B P) (hSw : WfS B S) (hb : b < nb B) (hL : L < 1024) (hh : h ≤ 999) (H : StT ρ σ q B S P h) :
    T l X (d + 7) 30 [.ref 267, .int (nI b), .int (nI L)] 402 402 ρ σ (fun v ρ' σ' => v = none ∧ ρ' = ρ ∧ CF cX σ σ' ∧ TeR σ' (tlO L (fun w k i => advB B P b w h k (S b) i) (ni B) (most60 h 30))) := by
  have hρ := H.1.1
  have n6 := hW.2.1
  have hm : most60 h 30 ≤ 30 := by unfold most60; split <;> omega
  refine T_of rfl ?_
  refine Ev_aload rfl rfl rfl ?_
  refine Ev_const rfl ?_
  refine Ev_putI rfl (by first | rfl | assumption) ⟨rfl, rfl⟩ rfl ?_
  refine Ev_const rfl ?_
  refine Ev_istore rfl ?_
  have s1 : CF cX σ (sI σ 267 (upd (σ.1 267) 18 11)) := CF.put _ _ rfl
  refine ft_copy (h := h) (by omega) (fun σ2 hs2 H2 ht2 hg2 => ?_) 10 0 _ (by decide) s1 (H.cx s1) ⟨by rw [sR_0, pk_us]; rfl, Or.inl rfl⟩ (fun w hw => absurd hw (Nat.not_lt_zero w))
  have hρ := H2.1.1
  refine Ev_aload rfl rfl rfl ?_
  refine Ev_const rfl ?_
  refine Ev_callV rfl rfl rfl rfl rfl (same_n 402) (t_hoursToCome _ (m := 30) hρ H2.2.2.2 hh (by decide)) ?_
  rintro v41 ρ41 σ41 ⟨rfl, e41, g41⟩
  obtain rfl := e41.symm
  obtain rfl := g41.symm
  refine Ev_istore rfl ?_
  refine Ev_const rfl ?_
  refine Ev_istore rfl ?_
  exact ft_hours hW hWt hWf hP hSw hb hL (by omega) (most60 h 30) 0 σ2 _ _ _ _ (by omega) hs2 H2 ht2 hg2
/-- the answer -/
def tlA (c : Nat) (T : Nat × Nat × Nat) : Nat := if c = 0 then T.2.1 else if c = 1 then T.2.2 else T.1
def tlV (L n N c : Nat) (G : Nat → Nat → Nat → Nat) : Int32 := if L = 0 ∨ n = 0 ∨ N = 0 then -1 else nI (tlA c (tlO L G n N))
theorem mt_in {d b c L k h : Nat} {σ : St} {S : Str} {P : Nat → Nat} {T : Nat × Nat × Nat} {Q : Po} (hρ : RF ρ) (hN : MNum σ B) (hW : WfN B) (hP : WfP B P) (hSw : WfS B S) (hL : L < 1024) (hk : k ≤ 30) (hw : WaysOk σ B P S h b 10 0) (hT : TOk (ni B) k T)
    (hQ : ∀ z, Ev l X (d + 9) 251 117 [.ref 326, .int (nI b), .int (nI c), .int (nI L), .int (if (tlI L (fun w i => advB B P b w h k (S b) i) k (ni B) T).1 = 11 then -1 else nI (tlI L (fun w i => advB B P b w h k (S b) i) k (ni B) T).2.1), .int (if (tlI L (fun w i => advB B P b w h k (S b) i) k (ni B) T).1 = 11 then -1 else nI (tlI L (fun w i => advB B P b w h k (S b) i) k (ni B) T).2.2), .int (if (tlI L (fun w i => advB B P b w h k (S b) i) k (ni B) T).1 = 11 then 0 else nI (tlI L (fun w i => advB B P b w h k (S b) i) k (ni B) T).1), .int (nI k), .int (nI (ni B)), z] [] 402 402 402 ρ σ Q) :
    ∀ (m i : Nat) (z : Value), i + m = ni B → Ev l X (d + 9) 251 59 [.ref 326, .int (nI b), .int (nI c), .int (nI L), .int (if (tlI L (fun w i => advB B P b w h k (S b) i) k i T).1 = 11 then -1 else nI (tlI L (fun w i => advB B P b w h k (S b) i) k i T).2.1), .int (if (tlI L (fun w i => advB B P b w h k (S b) i) k i T).1 = 11 then -1 else nI (tlI L (fun w i => advB B P b w h k (S b) i) k i T).2.2), .int (if (tlI L (fun w i => advB B P b w h k (S b) i) k i T).1 = 11 then 0 else nI (tlI L (fun w i => advB B P b w h k (S b) i) k i T).1), .int (nI k), .int (nI i), z] [] 402 402 402 ρ σ Q := by
  have n8 := hW.1
  intro m
  induction m with
  | zero =>
    intro i z hi
    have hi : i = ni B := by omega
    subst hi
    refine Ev_iload rfl rfl ?_
    refine Ev_aload rfl rfl rfl ?_
    refine Ev_callV rfl rfl rfl rfl rfl (same_n 402) (m_ideaMany _ hρ hN) ?_
    rintro v62 ρ62 σ62 ⟨rfl, e62, g62⟩
    obtain rfl := e62.symm
    obtain rfl := g62.symm
    refine Ev_icmp_ge rfl (fun h65 => ?_) (fun h65 => absurd (nI_le (Nat.le_refl _) (by omega)) h65)
    exact hQ _
  | succ m ih =>
    intro i z hi
    have hTi := tlI_ok (L := L) (G := fun w i => advB B P b w h k (S b) i) hT i (by omega)
    have hx := mxA_le L (fun w => advB B P b w h k (S b) i) 10
    have e : tlI L (fun w i => advB B P b w h k (S b) i) k (i + 1) T = stT k i (mxA L (fun w => advB B P b w h k (S b) i) 10) (tlI L (fun w i => advB B P b w h k (S b) i) k i T) := rfl
    have := fun z => ih (i + 1) z (by omega)
    rw [e] at this
    generalize hTe : tlI L (fun w i => advB B P b w h k (S b) i) k i T = U at *
    have hyes : (mxA L (fun w => advB B P b w h k (S b) i) 10) < U.1 → ∀ z, Ev l X (d + 9) 251 59 [.ref 326, .int (nI b), .int (nI c), .int (nI L), .int (nI k), .int (nI i), .int (nI (mxA L (fun w => advB B P b w h k (S b) i) 10)), .int (nI k), .int (nI (i + 1)), z] [] 402 402 402 ρ σ Q := by
      intro hq z
      have := this z
      unfold stT at this
      rw [if_pos hq, if_neg (show ¬ mxA L (fun w => advB B P b w h k (S b) i) 10 = 11 by omega), if_neg (show ¬ mxA L (fun w => advB B P b w h k (S b) i) 10 = 11 by omega), if_neg (show ¬ mxA L (fun w => advB B P b w h k (S b) i) 10 = 11 by omega)] at this
      exact this
    refine Ev_iload rfl rfl ?_
    refine Ev_aload rfl rfl rfl ?_
    refine Ev_callV rfl rfl rfl rfl rfl (same_n 402) (m_ideaMany _ hρ hN) ?_
    rintro v62 ρ62 σ62 ⟨rfl, e62, g62⟩
    obtain rfl := e62.symm
    obtain rfl := g62.symm
    refine Ev_icmp_ge rfl (fun h65 => absurd h65 (nI_ge (by omega) (by omega))) (fun h65 => ?_)
    refine Ev_aload rfl rfl rfl ?_
    refine Ev_iload rfl rfl ?_
    refine Ev_const rfl ?_
    refine Ev_iload rfl rfl ?_
    refine Ev_imul rfl ?_
    refine Ev_norm (pk_mul 8 k : _ = nI (8 * k)) ?_
    refine Ev_iload rfl rfl ?_
    refine Ev_iadd rfl ?_
    refine Ev_norm (nI_add (8 * k) i) ?_
    refine Ev_callV rfl rfl rfl rfl rfl (same_n 402) (m_mostAlike _ hρ (by omega) hL (g := fun w => advB B P b w h k (S b) i) (fun w hw2 => by rw [← Nat.add_assoc]; exact hw w k i hw2 hk (by omega) (Or.inl hw2)) (fun w => (advB_w hP (hSw.row b) k).1 i)) ?_
    rintro v78 ρ78 σ78 ⟨rfl, e78, g78⟩
    obtain rfl := e78.symm
    obtain rfl := g78.symm
    refine Ev_istore rfl ?_
    refine Ev_iload rfl rfl ?_
    refine Ev_const rfl ?_
    refine Ev_icmp_eq rfl (fun h86 => ?_) (fun h86 => ?_)
    · refine Ev_iload rfl rfl ?_
      refine Ev_istore rfl ?_
      refine Ev_iload rfl rfl ?_
      refine Ev_istore rfl ?_
      refine Ev_iload rfl rfl ?_
      refine Ev_istore rfl ?_
      refine Ev_iincE rfl rfl (nI_1 i) ?_
      refine Ev_goto rfl ?_
      refine hyes ?_ _
      by_cases hq : U.1 = 11
      · omega
      · rw [if_neg hq] at h86
        exact absurd h86 (nI_m1 (by have := hTi.2.1; omega))
    · refine Ev_iload rfl rfl ?_
      refine Ev_iload rfl rfl ?_
      refine Ev_icmp_lt rfl (fun h93 => ?_) (fun h93 => ?_)
      · refine Ev_iload rfl rfl ?_
        refine Ev_istore rfl ?_
        refine Ev_iload rfl rfl ?_
        refine Ev_istore rfl ?_
        refine Ev_iload rfl rfl ?_
        refine Ev_istore rfl ?_
        refine Ev_iincE rfl rfl (nI_1 i) ?_
        refine Ev_goto rfl ?_
        refine hyes ?_ _
        by_cases hq : U.1 = 11
        · omega
        · rw [if_neg hq] at h93
          exact (nI_ltI (by omega) (by have := hTi.1; omega)).mp h93
      · refine Ev_goto rfl ?_
        refine Ev_iincE rfl rfl (nI_1 i) ?_
        refine Ev_goto rfl ?_
        have := this (.int (nI (mxA L (fun w => advB B P b w h k (S b) i) 10)))
        have hq : ¬ U.1 = 11 := fun z => h86 (by rw [if_pos z])
        rw [if_neg hq] at h93
        unfold stT at this
        rw [if_neg (fun z => h93 ((nI_ltI (by omega) (by have := hTi.1; omega)).mpr z))] at this
        exact this
theorem mt_out {d b c L h : Nat} {σ0 σ : St} {S : Str} {P : Nat → Nat} (hρ : RF ρ) (hN : MNum σ B) (h0 : σ.1 365 0 = nI h) (hh : h ≤ 999) (hW : WfN B) (hP : WfP B P) (hSw : WfS B S) (hL : L < 1024) (hL0 : ¬ L = 0) (hc : c < 3) (hw : WaysOk σ B P S h b 10 0) (hf : MF scC scF σ0 σ) :
    ∀ (m k : Nat) (y z : Value), k + m = most60 h 30 → Ev l X (d + 9) 251 40 [.ref 326, .int (nI b), .int (nI c), .int (nI L), .int (if (tlO L (fun w k i => advB B P b w h k (S b) i) (ni B) k).1 = 11 then -1 else nI (tlO L (fun w k i => advB B P b w h k (S b) i) (ni B) k).2.1), .int (if (tlO L (fun w k i => advB B P b w h k (S b) i) (ni B) k).1 = 11 then -1 else nI (tlO L (fun w k i => advB B P b w h k (S b) i) (ni B) k).2.2), .int (if (tlO L (fun w k i => advB B P b w h k (S b) i) (ni B) k).1 = 11 then 0 else nI (tlO L (fun w k i => advB B P b w h k (S b) i) (ni B) k).1), .int (nI (k + 1)), y, z] [] 402 402 402 ρ σ (fun v ρ' σ' => v = some (.int (if (tlO L (fun w k i => advB B P b w h k (S b) i) (ni B) (most60 h 30)).1 = 11 then -1 else nI (tlA c (tlO L (fun w k i => advB B P b w h k (S b) i) (ni B) (most60 h 30))))) ∧ ρ' = ρ ∧ MF scC scF σ0 σ') := by
  have hm : most60 h 30 ≤ 30 := by unfold most60; split <;> omega
  intro m
  induction m with
  | zero =>
    intro k y z hk
    have hk : k = most60 h 30 := by omega
    subst hk
    have hT := tlO_ok (L := L) (G := fun w k i => advB B P b w h k (S b) i) (n := ni B) (most60 h 30)
    generalize tlO L (fun w k i => advB B P b w h k (S b) i) (ni B) (most60 h 30) = U at *
    have hcm : cmF h (nI (most60 h 30 + 1)) 1 30 = false := decide_eq_false (fun z => by
      rw [nI_toInt (by omega)] at z
      unfold most60 at z
      split at z <;> omega)
    have e0 : ¬ bI (cmF h (nI (most60 h 30 + 1)) 1 30) = 0 → False := fun z => z (by rw [hcm]; rfl)
    by_cases hU : U.1 = 11
    · rw [if_pos hU, if_pos hU, if_pos hU, if_pos hU]
      refine Ev_iload rfl rfl ?_
      refine Ev_if_eq rfl (fun h41 => absurd ((nI_eq (b := 0) (by omega) (by decide)).mp h41) hL0) (fun h41 => ?_)
      refine Ev_aload rfl rfl rfl ?_
      refine Ev_iload rfl rfl ?_
      refine Ev_const rfl ?_
      refine Ev_const rfl ?_
      refine Ev_callV rfl rfl rfl rfl rfl (same_n 402) (m_isAhead _ _ (lo := 1) (hi := 30) hρ h0 (by omega) (by decide) (by decide)) ?_
      rintro v50 ρ50 σ50 ⟨rfl, e50, g50⟩
      obtain rfl := e50.symm
      obtain rfl := g50.symm
      refine Ev_if_eq rfl (fun h53 => ?_) (fun h53 => (e0 h53).elim)
      refine Ev_iload rfl rfl ?_
      refine Ev_const rfl ?_
      refine Ev_icmp_ne rfl (fun h126 => absurd rfl h126) (fun h126 => ?_)
      refine Ev_const rfl ?_
      refine Ev_goto rfl ?_
      exact Ev_ireturn rfl rfl rfl rfl ⟨rfl, rfl, hf⟩
    · rw [if_neg hU, if_neg hU, if_neg hU, if_neg hU]
      refine Ev_iload rfl rfl ?_
      refine Ev_if_eq rfl (fun h41 => absurd ((nI_eq (b := 0) (by omega) (by decide)).mp h41) hL0) (fun h41 => ?_)
      refine Ev_aload rfl rfl rfl ?_
      refine Ev_iload rfl rfl ?_
      refine Ev_const rfl ?_
      refine Ev_const rfl ?_
      refine Ev_callV rfl rfl rfl rfl rfl (same_n 402) (m_isAhead _ _ (lo := 1) (hi := 30) hρ h0 (by omega) (by decide) (by decide)) ?_
      rintro v50 ρ50 σ50 ⟨rfl, e50, g50⟩
      obtain rfl := e50.symm
      obtain rfl := g50.symm
      refine Ev_if_eq rfl (fun h53 => ?_) (fun h53 => (e0 h53).elim)
      refine Ev_iload rfl rfl ?_
      refine Ev_const rfl ?_
      refine Ev_icmp_ne rfl (fun h126 => ?_) (fun h126 => absurd (Decidable.not_not.mp h126) (nI_m1 (by have := hT.2.1; omega)))
      refine Ev_iload rfl rfl ?_
      refine Ev_if_ne rfl (fun h134 => ?_) (fun h134 => ?_)
      · refine Ev_iload rfl rfl ?_
        refine Ev_const rfl ?_
        refine Ev_icmp_ne rfl (fun h144 => ?_) (fun h144 => ?_)
        · refine Ev_iload rfl rfl ?_
          exact Ev_ireturn rfl rfl rfl rfl ⟨by unfold tlA; rw [if_neg (fun z => h134 (by rw [z]; rfl)), if_neg (fun z => h144 (by rw [z]; rfl))], rfl, hf⟩
        · refine Ev_iload rfl rfl ?_
          refine Ev_goto rfl ?_
          exact Ev_ireturn rfl rfl rfl rfl ⟨by unfold tlA; rw [if_neg (fun z => h134 (by rw [z]; rfl)), if_pos ((nI_eq (b := 1) (by omega) (by decide)).mp (Decidable.not_not.mp h144))], rfl, hf⟩
      · refine Ev_iload rfl rfl ?_
        refine Ev_goto rfl ?_
        exact Ev_ireturn rfl rfl rfl rfl ⟨by unfold tlA; rw [if_pos ((nI_eq (b := 0) (by omega) (by decide)).mp (Decidable.not_not.mp h134))], rfl, hf⟩
  | succ m ih =>
    intro k y z hk
    have hT := tlO_ok (L := L) (G := fun w k i => advB B P b w h k (S b) i) (n := ni B) k
    have hcm : cmF h (nI (k + 1)) 1 30 = true := decide_eq_true (by
      rw [nI_toInt (by omega)]
      have : k < most60 h 30 := by omega
      unfold most60 at this
      split at this <;> omega)
    refine Ev_iload rfl rfl ?_
    refine Ev_if_eq rfl (fun h41 => absurd ((nI_eq (b := 0) (by omega) (by decide)).mp h41) hL0) (fun h41 => ?_)
    refine Ev_aload rfl rfl rfl ?_
    refine Ev_iload rfl rfl ?_
    refine Ev_const rfl ?_
    refine Ev_const rfl ?_
    refine Ev_callV rfl rfl rfl rfl rfl (same_n 402) (m_isAhead _ _ (lo := 1) (hi := 30) hρ h0 (by omega) (by decide) (by decide)) ?_
    rintro v50 ρ50 σ50 ⟨rfl, e50, g50⟩
    obtain rfl := e50.symm
    obtain rfl := g50.symm
    refine Ev_if_eq rfl (fun h53 => absurd h53 (by rw [hcm]; decide)) (fun h53 => ?_)
    refine Ev_const rfl ?_
    refine Ev_istore rfl ?_
    refine mt_in (T := tlO L (fun w k i => advB B P b w h k (S b) i) (ni B) k) hρ hN hW hP hSw hL (by omega) hw ⟨hT.1, Nat.le_succ_of_le hT.2.1, hT.2.2⟩ (fun z2 => ?_) (ni B) 0 _ (by omega)
    refine Ev_iincE rfl rfl (nI_1 (k + 1)) ?_
    refine Ev_goto rfl ?_
    exact ih (k + 1) _ _ (by omega)
end S82
