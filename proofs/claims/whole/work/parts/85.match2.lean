/-! A match: what a ducking now would bring, the table laid; the class. -/
def gnM (B : Bh) (S : Str) (W : Nat → Nat) (h tide b i : Nat) : Nat := bif rdM B (S b) b (W b) h tide i then kpM B (S b) b (W b) h tide i else 0
theorem gnM_le (B : Bh) (S : Str) (W : Nat → Nat) (h tide b i : Nat) : gnM B S W h tide b i ≤ 99 := by
  unfold gnM
  have := (kpM_le B (S b) b (W b) h tide i).2
  cases rdM B (S b) b (W b) h tide i
  · exact Nat.zero_le _
  · exact this
theorem cA0_X {σ σ' : St} (h : CF cA0 σ σ') : CF cX σ σ' := h.wk (fun _ _ q => cA_X q)
theorem cL_Xs {σ σ' : St} (h : CF cL σ σ') : CF cX σ σ' := h.wk (fun _ _ q => cL_X q)
theorem cX_p {k j : Nat} (h : k ≠ 16 ∧ k ≠ 31 ∧ k ≠ 265 ∧ k ≠ 266 ∧ k < 267) : cX k j = false := cX_f (by omega)
theorem cA0_f {k j : Nat} (h : k ≠ 16 ∧ k ≠ 31 ∧ k ≠ 266) : cA0 k j = false := by
  unfold cA0
  rw [nbeq h.1, nbeq h.2.1, nbeq h.2.2]
  rfl
theorem cL_f {k j : Nat} (h : k ≠ 16 ∧ k ≠ 31 ∧ k ≠ 265 ∧ k ≠ 266) : cL k j = false := by
  unfold cL
  rw [nbeq h.1, nbeq h.2.1, nbeq h.2.2.1, nbeq h.2.2.2]
  rfl
theorem Stl.put {σ : St} {B : Bh} {row : Nat → Nat} {b w h tide k : Nat} (H : Stl σ B row b w h tide) (f : Nat → Int32) (hk : 266 < k) : Stl (sI σ k f) B row b w h tide := by
  obtain ⟨g1, g2, g3, g4, g5, g6⟩ := H
  have e1 := sR_1 σ f (show 266 ≠ k by omega)
  have e2 := sR_1 σ f (show 265 ≠ k by omega)
  exact ⟨by rw [e1]; exact g1, by rw [e1]; exact g2, by rw [e1]; exact g3, by rw [e1]; exact g4, by rw [e1]; exact g5, by rw [e2]; exact g6⟩
section S85
variable {l : Launch} {X : Cx} {ρ : Rf} {B : Bh} {q : Nat}
theorem gi_loop {d h tide b : Nat} {S : Str} {Q : Po} (hW : WfN B) (hWt : WfT B) (hWf : WfF B) (hh : h ≤ 2000) (ht9 : tide ≤ 9) (hb : b < nb B) (σ0 : St)
    (hQ : ∀ σ, CF cX σ0 σ → CRd ρ σ q B → (∀ b', b' < b + 1 → ∀ i, i < ni B → σ.1 (289 + b') i = nI (gnM B S (wit B) h tide b' i)) → Ev l X (d + 4) 22 128 [.ref 267, .int (nI (nb B)), .int (nI tide), .int (nI b), .int (nI (ni B))] [] 402 402 402 ρ σ Q) :
    ∀ (m i : Nat) (σ : St), i + m = ni B → CF cX σ0 σ → CRd ρ σ q B → Stl σ B (S b) b (wit B b) h tide → (∀ b', b' < b → ∀ i, i < ni B → σ.1 (289 + b') i = nI (gnM B S (wit B) h tide b' i)) → (∀ i', i' < i → σ.1 (289 + b) i' = nI (gnM B S (wit B) h tide b i')) →
    Ev l X (d + 4) 22 73 [.ref 267, .int (nI (nb B)), .int (nI tide), .int (nI b), .int (nI i)] [] 402 402 402 ρ σ Q := by
  have n8 := hW.1
  have n6 := hW.2.1
  have hw9 := (hWt.2.1 b hb).2
  intro m
  induction m with
  | zero =>
    intro i σ hi hs hR hst hg1 hg2
    have hi : i = ni B := by omega
    subst hi
    have hρ := hR.1
    refine Ev_iload rfl rfl ?_
    refine Ev_aload rfl rfl rfl ?_
    refine Ev_getR rfl (by first | rfl | assumption) (hρ _ _ _ rfl) ?_
    refine Ev_getR rfl (by first | rfl | assumption) hR.2.2.1 ?_
    refine Ev_getI rfl (by rcases hR.2.1 with rfl | rfl <;> rfl) ?_
    refine Ev_norm hR.2.2.2.1.1 ?_
    refine Ev_icmp_ge rfl (fun h85 => ?_) (fun h85 => absurd (nI_le (Nat.le_refl _) (by omega)) h85)
    exact hQ σ hs hR (fun b' hb' i hi => by
    by_cases hq : b' = b
    · subst hq; exact hg2 i hi
    · exact hg1 b' (by omega) i hi)
  | succ m ih =>
    intro i σ hi hs hR hst hg1 hg2
    have hρ := hR.1
    have nxt : ∀ (σ1 : St) (v : Nat), CF cX σ σ1 → Stl σ1 B (S b) b (wit B b) h tide → (∀ b', b' < 6 → σ1.1 (289 + b') = σ.1 (289 + b')) → v = gnM B S (wit B) h tide b i →
        Ev l X (d + 4) 22 122 [.ref 267, .int (nI (nb B)), .int (nI tide), .int (nI b), .int (nI i)] [] 402 402 402 ρ (sI σ1 (289 + b) (upd (σ1.1 (289 + b)) i (nI v))) Q := by
      intro σ1 v c1 st1 e1 hv
      subst hv
      have c2 : CF cX σ1 (sI σ1 (289 + b) (upd (σ1.1 (289 + b)) i (nI (gnM B S (wit B) h tide b i)))) := CF.put _ _ (cX_t (by omega) (by omega))
      have c3 := (hs.tr c1).tr c2
      refine Ev_iincE rfl rfl (nI_1 i) ?_
      refine Ev_goto rfl ?_
      refine ih (i + 1) _ (by omega) c3 ((hR.cx c1).cx c2) (st1.put _ (by omega)) (fun b' hb' i' hi' => ?_) (fun i' hi' => ?_)
      · rw [sR_1 _ _ (by omega), e1 b' (by omega)]; exact hg1 b' hb' i' hi'
      · rw [sR_0]
        by_cases hq : i' = i
        · subst hq; rw [pk_us]
        · rw [pk_un hq, e1 b (by omega)]; exact hg2 i' (by omega)
    refine Ev_iload rfl rfl ?_
    refine Ev_aload rfl rfl rfl ?_
    refine Ev_getR rfl (by first | rfl | assumption) (hρ _ _ _ rfl) ?_
    refine Ev_getR rfl (by first | rfl | assumption) hR.2.2.1 ?_
    refine Ev_getI rfl (by rcases hR.2.1 with rfl | rfl <;> rfl) ?_
    refine Ev_norm hR.2.2.2.1.1 ?_
    refine Ev_icmp_ge rfl (fun h85 => absurd h85 (nI_ge (by omega) (by omega))) (fun h85 => ?_)
    refine Ev_aload rfl rfl rfl ?_
    refine Ev_getR rfl (by first | rfl | assumption) (hρ _ _ _ rfl) ?_
    refine Ev_iload rfl rfl ?_
    refine Ev_aald (t := 4) rfl (Or.inl rfl) (by first | rfl | assumption) (vp_in_nI (n := b) (show b < 6 by omega) (by decide)) (by rw [nI_clamp (by omega)]; exact rf288 hρ (by omega) : _ = some (289 + b)) ?_
    refine Ev_iload rfl rfl ?_
    refine Ev_aload rfl rfl rfl ?_
    refine Ev_getR rfl (by first | rfl | assumption) (hρ _ _ _ rfl) ?_
    refine Ev_iload rfl rfl ?_
    refine Ev_callV rfl rfl rfl rfl rfl (same_n 402) (t_isReady _ hR hW hWt hWf hst hw9 hh ht9 hb (by omega)) ?_
    rintro v102 ρ102 σ102 ⟨rfl, e102, s102⟩
    obtain rfl := e102.symm
    refine Ev_if_eq rfl (fun h105 => ?_) (fun h105 => ?_)
    · refine Ev_const rfl ?_
      refine Ev_iast rfl ((rowA (show b < 6 by omega)).1) (by rw [(rowA (show b < 6 by omega)).2.1]; exact vp_in_nI (n := i) (show i < 8 by omega) (by decide)) ?_
      rw [nI_clamp (show i < 2 ^ 31 by omega)]
      exact nxt σ102 0 (cA0_X s102) (hst.ca s102) (fun b' hb' => funext fun j => s102.1 _ j (cA0_f (by omega))) (by unfold gnM; rw [ff_of h105]; rfl)
    · refine Ev_aload rfl rfl rfl ?_
      refine Ev_getR rfl (by first | rfl | assumption) (hρ _ _ _ rfl) ?_
      refine Ev_iload rfl rfl ?_
      refine Ev_callV rfl rfl rfl rfl rfl (same_n 402) (t_strengthBy _ (hR.cx (cA0_X s102)) hW hWt hWf (hst.ca s102) hw9 hh ht9 hb (by omega)) ?_
      rintro v114 ρ114 σ114 ⟨rfl, e114, s114⟩
      obtain rfl := e114.symm
      refine Ev_goto rfl ?_
      refine Ev_iast rfl ((rowA (show b < 6 by omega)).1) (by rw [(rowA (show b < 6 by omega)).2.1]; exact vp_in_nI (n := i) (show i < 8 by omega) (by decide)) ?_
      rw [nI_clamp (show i < 2 ^ 31 by omega)]
      exact nxt σ114 _ ((cA0_X s102).tr (cA0_X s114)) ((hst.ca s102).ca s114) (fun b' hb' => funext fun j => by rw [s114.1 _ j (cA0_f (by omega)), s102.1 _ j (cA0_f (by omega))]) (by unfold gnM; rw [rt_of h105]; rfl)
theorem gb_loop {d h tide : Nat} {S : Str} {Q : Po} (hW : WfN B) (hWt : WfT B) (hWf : WfF B) (hSw : WfS B S) (hh : h ≤ 2000) (ht9 : tide ≤ 9) (σ0 : St) (hS : CStr σ0 S) (hhr : σ0.1 32 0 = nI h)
    (hQ : ∀ σ w4, CF cX σ0 σ → CRd ρ σ q B → (∀ b, b < nb B → ∀ i, i < ni B → σ.1 (289 + b) i = nI (gnM B S (wit B) h tide b i)) → Ev l X (d + 4) 22 134 [.ref 267, .int (nI (nb B)), .int (nI tide), .int (nI (nb B)), w4] [] 402 402 402 ρ σ Q) :
    ∀ (m b : Nat) (σ : St) (w4 : Value), b + m = nb B → CF cX σ0 σ → CRd ρ σ q B → (∀ b', b' < b → ∀ i, i < ni B → σ.1 (289 + b') i = nI (gnM B S (wit B) h tide b' i)) →
    Ev l X (d + 4) 22 28 [.ref 267, .int (nI (nb B)), .int (nI tide), .int (nI b), w4] [] 402 402 402 ρ σ Q := by
  have n6 := hW.2.1
  intro m
  induction m with
  | zero =>
    intro b σ w4 hb hs hR hg1
    have hb : b = nb B := by omega
    subst hb
    refine Ev_iload rfl rfl ?_
    refine Ev_iload rfl rfl ?_
    refine Ev_icmp_ge rfl (fun h30 => ?_) (fun h30 => absurd (nI_le (Nat.le_refl _) (by omega)) h30)
    exact hQ σ _ hs hR hg1
  | succ m ih =>
    intro b σ w4 hb hs hR hg1
    have hρ := hR.1
    have hrow : RowR σ (34 + b) (S b) := fun i hi => by rw [hs.1 (34 + b) i (cX_p (by omega))]; exact hS b (by omega) i hi
    refine Ev_iload rfl rfl ?_
    refine Ev_iload rfl rfl ?_
    refine Ev_icmp_ge rfl (fun h30 => absurd h30 (nI_ge (by omega) (by omega))) (fun h30 => ?_)
    refine Ev_aload rfl rfl rfl ?_
    refine Ev_getR rfl (by first | rfl | assumption) (hρ _ _ _ rfl) ?_
    refine Ev_aload rfl rfl rfl ?_
    refine Ev_getR rfl (by first | rfl | assumption) (hρ _ _ _ rfl) ?_
    refine Ev_getR rfl (by first | rfl | assumption) (hρ _ _ _ rfl) ?_
    refine Ev_iload rfl rfl ?_
    refine Ev_aald (t := 4) rfl (Or.inl rfl) (by first | rfl | assumption) (vp_in_nI (n := b) (show b < 6 by omega) (by decide)) (by rw [nI_clamp (by omega)]; exact rf33 hρ (by omega) : _ = some (34 + b)) ?_
    refine Ev_iload rfl rfl ?_
    refine Ev_aload rfl rfl rfl ?_
    refine Ev_getR rfl (by first | rfl | assumption) (hρ _ _ _ rfl) ?_
    refine Ev_getR rfl (by first | rfl | assumption) hR.2.2.1 ?_
    refine Ev_getR rfl (by rcases hR.2.1 with rfl | rfl <;> rfl) (by rcases hR.2.1 with rfl | rfl <;> exact hρ _ _ _ rfl : _ = some (q + 7)) ?_
    refine Ev_iload rfl rfl ?_
    refine Ev_iald rfl (by rcases hR.2.1 with rfl | rfl <;> rfl) (by rcases hR.2.1 with rfl | rfl <;> exact vp_in_nI (n := b) (show b < 6 by omega) (by decide)) ?_
    refine Ev_norm (by rw [nI_clamp (by omega)]; exact ev_wit hR (by omega) : _ = nI (wit B b)) ?_
    refine Ev_aload rfl rfl rfl ?_
    refine Ev_getR rfl (by first | rfl | assumption) (hρ _ _ _ rfl) ?_
    refine Ev_getI rfl (by first | rfl | assumption) ?_
    refine Ev_norm (by rw [hs.1 32 _ (cX_p (by decide))]; exact hhr : _ = nI h) ?_
    refine Ev_iload rfl rfl ?_
    refine Ev_callV rfl rfl rfl rfl rfl (same_n 402) (t_settle _ hR hW (by omega) (rowN (show b < 6 by omega)) hrow (hSw.row b)) ?_
    rintro v67 ρ67 σ67 ⟨rfl, e67, s67, st67⟩
    obtain rfl := e67.symm
    refine Ev_const rfl ?_
    refine Ev_istore rfl ?_
    refine gi_loop (d := d) hW hWt hWf hh ht9 (show b < nb B by omega) σ0 (fun σ1 c1 r1 g1 => ?_) (ni B) 0 σ67 (by omega) (hs.tr (cL_Xs s67)) (hR.cl s67) st67 (fun b' hb' i hi => by rw [s67.1 _ _ (cL_f (by omega))]; exact hg1 b' hb' i hi) (fun i' hi' => absurd hi' (Nat.not_lt_zero _))
    refine Ev_iincE rfl rfl (nI_1 b) ?_
    refine Ev_goto rfl ?_
    exact ih (b + 1) σ1 _ (by omega) c1 r1 g1
theorem gz_loop {d h tide : Nat} {S : Str} {Q : Po} (hW : WfN B) (σ0 : St)
    (hQ : ∀ σ w4, CF cX σ0 σ → CRd ρ σ q B → (∀ b, b < nb B → ∀ i, i < ni B → σ.1 (289 + b) i = nI (gnM B S (wit B) h tide b i)) → CTb σ (nb B) (fun _ => 0) → Ev l X (d + 4) 22 158 [.ref 267, .int (nI (nb B)), .int (nI tide), .int (nI 256), w4] [] 402 402 402 ρ σ Q) :
    ∀ (m s : Nat) (σ : St) (w4 : Value), s + m = 256 → CF cX σ0 σ → CRd ρ σ q B → (∀ b, b < nb B → ∀ i, i < ni B → σ.1 (289 + b) i = nI (gnM B S (wit B) h tide b i)) → (∀ s', s' < s → σ.1 (296 + nb B) s' = nI 0) →
    Ev l X (d + 4) 22 136 [.ref 267, .int (nI (nb B)), .int (nI tide), .int (nI s), w4] [] 402 402 402 ρ σ Q := by
  have n6 := hW.2.1
  intro m
  induction m with
  | zero =>
    intro s σ w4 hs hc hR hg hz
    have hs : s = 256 := by omega
    subst hs
    refine Ev_iload rfl rfl ?_
    refine Ev_const rfl ?_
    refine Ev_icmp_ge rfl (fun h140 => ?_) (fun h140 => absurd (by decide) h140)
    exact hQ σ _ hc hR hg hz
  | succ m ih =>
    intro s σ w4 hs hc hR hg hz
    have hρ := hR.1
    refine Ev_iload rfl rfl ?_
    refine Ev_const rfl ?_
    refine Ev_icmp_ge rfl (fun h140 => absurd h140 (nI_ge (b := 256) (by omega) (by decide))) (fun h140 => ?_)
    refine Ev_aload rfl rfl rfl ?_
    refine Ev_getR rfl (by first | rfl | assumption) (hρ _ _ _ rfl) ?_
    refine Ev_iload rfl rfl ?_
    refine Ev_aald (t := 4) rfl (Or.inl rfl) (by first | rfl | assumption) (vp_in_nI (n := nb B) (show nb B < 7 by omega) (by decide)) (by rw [nI_clamp (by omega)]; exact rf295 hρ (by omega) : _ = some (296 + nb B)) ?_
    refine Ev_iload rfl rfl ?_
    refine Ev_const rfl ?_
    refine Ev_iast rfl ((rowB (show nb B < 7 by omega)).1) (by rw [(rowB (show nb B < 7 by omega)).2]; exact vp_in_nI (n := s) (show s < 256 by omega) (by decide)) ?_
    rw [nI_clamp (show s < 2 ^ 31 by omega)]
    have c2 : CF cX σ (sI σ (296 + nb B) (upd (σ.1 (296 + nb B)) s 0)) := CF.put _ _ (cX_t (by omega) (by omega))
    refine Ev_iincE rfl rfl (nI_1 s) ?_
    refine Ev_goto rfl ?_
    refine ih (s + 1) _ _ (by omega) (hc.tr c2) (hR.cx c2) (fun b hb i hi => by rw [sR_1 _ _ (by omega)]; exact hg b hb i hi) (fun s' hs' => ?_)
    rw [sR_0]
    by_cases hq : s' = s
    · subst hq; rw [pk_us]; rfl
    · rw [pk_un hq]; exact hz s' (by omega)
theorem gt_in {d b : Nat} {w2 : Int32} {g : Nat → Nat → Nat} {Q : Po} (hW : WfN B) (hb : b < nb B) (hg99 : ∀ b i, g b i ≤ 99) (σ0 : St)
    (hQ : ∀ σ, CF cX σ0 σ → CRd ρ σ q B → (∀ b, b < nb B → ∀ i, i < ni B → σ.1 (289 + b) i = nI (g b i)) → (∀ b', b ≤ b' → b' ≤ nb B → CTb σ b' (mB g (ni B) (nb B) b')) → Ev l X (d + 4) 22 199 [.ref 267, .int (nI (nb B)), .int w2, .int (nI b), .int (nI 256)] [] 402 402 402 ρ σ Q) :
    ∀ (m s : Nat) (σ : St), s + m = 256 → CF cX σ0 σ → CRd ρ σ q B → (∀ b, b < nb B → ∀ i, i < ni B → σ.1 (289 + b) i = nI (g b i)) → (∀ b', b + 1 ≤ b' → b' ≤ nb B → CTb σ b' (mB g (ni B) (nb B) b')) → (∀ s', s' < s → σ.1 (296 + b) s' = nI (mB g (ni B) (nb B) b s')) →
    Ev l X (d + 4) 22 169 [.ref 267, .int (nI (nb B)), .int w2, .int (nI b), .int (nI s)] [] 402 402 402 ρ σ Q := by
  have n6 := hW.2.1
  intro m
  induction m with
  | zero =>
    intro s σ hs hc hR hg ht hz
    have hs : s = 256 := by omega
    subst hs
    refine Ev_iload rfl rfl ?_
    refine Ev_const rfl ?_
    refine Ev_icmp_ge rfl (fun h174 => ?_) (fun h174 => absurd (by decide) h174)
    exact hQ σ hc hR hg (fun b' h1 h2 => by
    by_cases hq : b' = b
    · subst hq; exact hz
    · exact ht b' (by omega) h2)
  | succ m ih =>
    intro s σ hs hc hR hg ht hz
    have hρ := hR.1
    refine Ev_iload rfl rfl ?_
    refine Ev_const rfl ?_
    refine Ev_icmp_ge rfl (fun h174 => absurd h174 (nI_ge (b := 256) (by omega) (by decide))) (fun h174 => ?_)
    refine Ev_aload rfl rfl rfl ?_
    refine Ev_getR rfl (by first | rfl | assumption) (hρ _ _ _ rfl) ?_
    refine Ev_iload rfl rfl ?_
    refine Ev_aald (t := 4) rfl (Or.inl rfl) (by first | rfl | assumption) (vp_in_nI (n := b) (show b < 7 by omega) (by decide)) (by rw [nI_clamp (by omega)]; exact rf295 hρ (by omega) : _ = some (296 + b)) ?_
    refine Ev_iload rfl rfl ?_
    refine Ev_aload rfl rfl rfl ?_
    refine Ev_iload rfl rfl ?_
    refine Ev_iload rfl rfl ?_
    refine Ev_callV rfl rfl rfl rfl rfl (same_n 402) (t_bestFrom _ hR hW (by omega) (by omega) (hg b hb) (hg99 b) (ht (b + 1) (Nat.le_refl _) (by omega)) (fun s => mB_le hg99 n6 s)) ?_
    rintro v189 ρ189 σ189 ⟨rfl, e189, g189⟩
    obtain rfl := e189.symm
    obtain rfl := g189.symm
    refine Ev_norm (by rw [← mB_s hb] : _ = nI (mB g (ni B) (nb B) b s)) ?_
    refine Ev_iast rfl ((rowB (show b < 7 by omega)).1) (by rw [(rowB (show b < 7 by omega)).2]; exact vp_in_nI (n := s) (show s < 256 by omega) (by decide)) ?_
    rw [nI_clamp (show s < 2 ^ 31 by omega)]
    have c2 : CF cX σ (sI σ (296 + b) (upd (σ.1 (296 + b)) s (nI (mB g (ni B) (nb B) b s)))) := CF.put _ _ (cX_t (by omega) (by omega))
    refine Ev_iincE rfl rfl (nI_1 s) ?_
    refine Ev_goto rfl ?_
    refine ih (s + 1) _ (by omega) (hc.tr c2) (hR.cx c2) (fun b hb i hi => by rw [sR_1 _ _ (by omega)]; exact hg b hb i hi) (fun b' h1 h2 s' hs' => by rw [sR_1 _ _ (by omega)]; exact ht b' h1 h2 s' hs') (fun s' hs' => ?_)
    rw [sR_0]
    by_cases hq : s' = s
    · subst hq; rw [pk_us]
    · rw [pk_un hq]; exact hz s' (by omega)
theorem gt_loop {d : Nat} {w2 : Int32} {g : Nat → Nat → Nat} {Q : Po} (hW : WfN B) (hg99 : ∀ b i, g b i ≤ 99) (σ0 : St)
    (hQ : ∀ σ w4, CF cX σ0 σ → CRd ρ σ q B → (∀ b, b < nb B → ∀ i, i < ni B → σ.1 (289 + b) i = nI (g b i)) → (∀ b', b' ≤ nb B → CTb σ b' (mB g (ni B) (nb B) b')) → Ev l X (d + 4) 22 205 [.ref 267, .int (nI (nb B)), .int w2, .int (-1), w4] [] 402 402 402 ρ σ Q) :
    ∀ (k : Nat) (σ : St) (w4 : Value), k ≤ nb B → CF cX σ0 σ → CRd ρ σ q B → (∀ b, b < nb B → ∀ i, i < ni B → σ.1 (289 + b) i = nI (g b i)) → (∀ b', k ≤ b' → b' ≤ nb B → CTb σ b' (mB g (ni B) (nb B) b')) →
    Ev l X (d + 4) 22 162 [.ref 267, .int (nI (nb B)), .int w2, .int (nI k - 1), w4] [] 402 402 402 ρ σ Q := by
  have n6 := hW.2.1
  intro k
  induction k with
  | zero =>
    intro σ w4 hk hc hR hg ht
    refine Ev_iload rfl rfl ?_
    refine Ev_if_lt rfl (fun h163 => ?_) (fun h163 => absurd (by decide) h163)
    exact hQ σ w4 hc hR hg (fun b' hb' => ht b' (Nat.zero_le _) hb')
  | succ k ih =>
    intro σ w4 hk hc hR hg ht
    rw [nI_pred]
    refine Ev_iload rfl rfl ?_
    refine Ev_if_lt rfl (fun h163 => absurd h163 (nI_pos (by omega))) (fun h163 => ?_)
    refine Ev_const rfl ?_
    refine Ev_istore rfl ?_
    refine gt_in (d := d) hW (show k < nb B by omega) hg99 σ0 (fun σ1 c1 r1 g1 t1 => ?_) 256 0 σ (by decide) hc hR hg (fun b' h1 h2 => ht b' h1 h2) (fun s' hs' => absurd hs' (Nat.not_lt_zero _))
    refine Ev_iincE rfl rfl (show nI k + -1 = nI k - 1 from (Int32.sub_eq_add_neg _ _).symm) ?_
    refine Ev_goto rfl ?_
    exact ih σ1 (.int (nI 256)) (by omega) c1 r1 g1 t1
theorem t_findMatch (d : Nat) {σ : St} {h : Nat} {S : Str} (hR : CRd ρ σ q B) (hW : WfN B) (hWt : WfT B) (hWf : WfF B) (hS : CStr σ S) (hSw : WfS B S) (hhr : σ.1 32 0 = nI h) (hh : h ≤ 999) :
    T l X (d + 5) 22 [.ref 267] 402 402 ρ σ (fun v ρ' σ' => v = some (.int (nI (mB (gnM B S (wit B) h (tdM B h)) (ni B) (nb B) 0 0))) ∧ ρ' = ρ ∧ CF cX σ σ' ∧ ∀ b, b < nb B → σ'.1 303 b = plV (mP (gnM B S (wit B) h (tdM B h)) (ni B) (nb B) b (mtS (gnM B S (wit B) h (tdM B h)) (ni B) (nb B) b))) := by
  have hρ := hR.1
  have n6 := hW.2.1
  have hg99 := gnM_le B S (wit B) h (tdM B h)
  refine T_of rfl ?_
  refine Ev_aload rfl rfl rfl ?_
  refine Ev_getR rfl (by first | rfl | assumption) (hρ _ _ _ rfl) ?_
  refine Ev_getR rfl (by first | rfl | assumption) hR.2.2.1 ?_
  refine Ev_getI rfl (by rcases hR.2.1 with rfl | rfl <;> rfl) ?_
  refine Ev_norm hR.2.2.2.1.2.2.1 ?_
  refine Ev_istore rfl ?_
  refine Ev_aload rfl rfl rfl ?_
  refine Ev_getR rfl (by first | rfl | assumption) (hρ _ _ _ rfl) ?_
  refine Ev_aload rfl rfl rfl ?_
  refine Ev_getR rfl (by first | rfl | assumption) (hρ _ _ _ rfl) ?_
  refine Ev_getI rfl (by first | rfl | assumption) ?_
  refine Ev_norm hhr ?_
  refine Ev_callV rfl rfl rfl rfl rfl (same_n 402) (t_tideAt _ hR hWf (by omega)) ?_
  rintro v22 ρ22 σ22 ⟨rfl, e22, s22, -, -⟩
  obtain rfl := e22.symm
  refine Ev_istore rfl ?_
  refine Ev_const rfl ?_
  refine Ev_istore rfl ?_
  refine gb_loop (d := d + 1) (h := h) hW hWt hWf hSw (by omega) (tdM_le B h) σ22 (fun b hb i hi => by rw [s22.1 _ _ (cL_f (by omega))]; exact hS b hb i hi) (by rw [s22.1 32 _ rfl]; exact hhr) (fun σ1 w1 c1 r1 g1 => ?_) (nb B) 0 σ22 _ (by omega) (CF.rf _ _) (hR.cl s22) (fun b' hb' => absurd hb' (Nat.not_lt_zero _))
  refine Ev_const rfl ?_
  refine Ev_istore rfl ?_
  refine gz_loop (d := d + 1) hW σ22 (fun σ2 w2 c2 r2 g2 z2 => ?_) 256 0 σ1 _ (by decide) c1 r1 g1 (fun s' hs' => absurd hs' (Nat.not_lt_zero _))
  refine Ev_iload rfl rfl ?_
  refine Ev_const rfl ?_
  refine Ev_isub rfl ?_
  refine Ev_istore rfl ?_
  refine gt_loop (d := d + 1) hW hg99 σ22 (fun σ3 w3 c3 r3 g3 t3 => ?_) (nb B) σ2 _ (Nat.le_refl _) c2 r2 g2 (fun b' h1 h2 => ?_)
  · refine Ev_aload rfl rfl rfl ?_
    refine Ev_iload rfl rfl ?_
    refine Ev_callV rfl rfl rfl rfl rfl (same_n 402) (t_pickAlong _ r3 hW g3 hg99 t3) ?_
    rintro v207 ρ207 σ207 ⟨rfl, e207, f, hf, hp⟩
    obtain rfl := e207.symm
    subst hf
    refine Ev_aload rfl rfl rfl ?_
    refine Ev_getR rfl (by first | rfl | assumption) (hρ _ _ _ rfl) ?_
    refine Ev_const rfl ?_
    refine Ev_aald (t := 4) rfl (Or.inl rfl) (by first | rfl | assumption) (vp_in_nI (n := 0) (by decide) (by decide)) (hρ _ _ _ rfl : _ = some 296) ?_
    refine Ev_const rfl ?_
    refine Ev_iald rfl (by first | rfl | assumption) (vp_in_nI (n := 0) (by decide) (by decide)) ?_
    refine Ev_norm (by rw [sR_1 _ _ (by decide)]; exact t3 0 (Nat.zero_le _) 0 (by decide) : _ = nI (mB (gnM B S (wit B) h (tdM B h)) (ni B) (nb B) 0 0)) ?_
    exact Ev_ireturn rfl rfl rfl rfl ⟨rfl, rfl, (cL_Xs s22).tr (c3.tr (CF.cell _ _ (fun j => cX_t (by decide) (by decide)))), fun b hb => by rw [sR_0]; exact hp b hb⟩
  · have hq : b' = nb B := by omega
    subst hq
    intro s hs
    rw [mB_m]
    exact z2 s hs
end S85
