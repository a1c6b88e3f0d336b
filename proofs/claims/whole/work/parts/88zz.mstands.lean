/-! A beach read by the reference: it stands. -/
section S88zz
variable {l : Launch} {X : Cx} {ρ : Rf} {U : Tx} {Bo B : Bh}
/-- the same but for one array -/
abbrev M1 (k : Nat) (σ σ' : St) : Prop := MF (fun q => Nat.beq q k) (fun _ => false) σ σ'
theorem sd_many (d : Nat) (hρ : RF ρ) {σ0 : St} {Q : Po} (hQ : ∀ σ' L, (∀ j, j < 5 → σ'.1 356 (5 + j) = σ0.1 356 j) → (∀ j, (j < 5 ∨ 5 + 5 ≤ j) → σ'.1 356 j = σ0.1 356 j) → M1 356 σ0 σ' → Ev l X d 190 27 [.ref 326, L] [] 402 402 402 ρ σ' Q) :
    ∀ (m k : Nat) (σ : St), k + m = 5 → (∀ j, j < k → σ.1 356 (5 + j) = σ0.1 356 j) → (∀ j, (j < 5 ∨ 5 + k ≤ j) → σ.1 356 j = σ0.1 356 j) → M1 356 σ0 σ → Ev l X d 190 2 [.ref 326, .int (nI k)] [] 402 402 402 ρ σ Q := by
  intro m
  induction m with
  | zero =>
    intro k σ hm h1 h2 h3
    obtain rfl : k = 5 := by omega
    refine Ev_iload rfl rfl ?_
    refine Ev_const rfl ?_
    refine Ev_icmp_ge rfl (fun h4 => ?_) (fun h4 => absurd (nI_le (a := 5) (b := 5) (by omega) (by omega)) h4)
    exact hQ σ _ h1 h2 h3
  | succ m ih =>
    intro k σ hm h1 h2 h3
    refine Ev_iload rfl rfl ?_
    refine Ev_const rfl ?_
    refine Ev_icmp_ge rfl (fun h4 => absurd h4 (nI_ge (b := 5) (by omega) (by omega))) (fun h4 => ?_)
    refine Ev_aload rfl rfl rfl ?_
    refine Ev_getR rfl (by first | rfl | assumption) (hρ _ _ _ rfl) ?_
    refine Ev_const rfl ?_
    refine Ev_iload rfl rfl ?_
    refine Ev_iadd rfl ?_
    refine Ev_norm (nI_add 5 k) ?_
    refine Ev_aload rfl rfl rfl ?_
    refine Ev_getR rfl (by first | rfl | assumption) (hρ _ _ _ rfl) ?_
    refine Ev_iload rfl rfl ?_
    refine Ev_iald rfl (by first | rfl | assumption) (vp_in_nI (n := k) (show k < 10 by omega) (by decide)) ?_
    refine Ev_norm (by rw [nI_clamp (by omega)]; exact h2 k (Or.inl (by omega)) : _ = σ0.1 356 k) ?_
    refine Ev_iast rfl (by first | rfl | assumption) (vp_in_nI (n := 5 + k) (show 5 + k < 10 by omega) (by decide)) ?_
    refine Ev_iincE rfl rfl (nI_1 k) ?_
    refine Ev_goto rfl ?_
    rw [nI_clamp (show 5 + k < 2 ^ 31 by omega)]
    refine ih (k + 1) _ (by omega) (fun j hj => ?_) (fun j hj => ?_) (h3.tr (MF.cell _ (by decide) rfl))
    · rw [sR_0]
      by_cases hz : j = k
      · rw [hz, pk_us]
      · rw [pk_un (by omega)]; exact h1 j (by omega)
    · rw [sR_0, pk_un (by omega)]; exact h2 j (by omega)
theorem sd_bath (d : Nat) (hρ : RF ρ) {σ0 : St} {Q : Po} (hQ : ∀ σ' L, (∀ j, j < 12 → σ'.1 360 (12 + j) = σ0.1 360 j) → (∀ j, (j < 12 ∨ 12 + 12 ≤ j) → σ'.1 360 j = σ0.1 360 j) → M1 360 σ0 σ' → Ev l X d 190 170 [.ref 326, L] [] 402 402 402 ρ σ' Q) :
    ∀ (m k : Nat) (σ : St), k + m = 12 → (∀ j, j < k → σ.1 360 (12 + j) = σ0.1 360 j) → (∀ j, (j < 12 ∨ 12 + k ≤ j) → σ.1 360 j = σ0.1 360 j) → M1 360 σ0 σ → Ev l X d 190 143 [.ref 326, .int (nI k)] [] 402 402 402 ρ σ Q := by
  intro m
  induction m with
  | zero =>
    intro k σ hm h1 h2 h3
    obtain rfl : k = 12 := by omega
    refine Ev_iload rfl rfl ?_
    refine Ev_const rfl ?_
    refine Ev_icmp_ge rfl (fun h146 => ?_) (fun h146 => absurd (nI_le (a := 12) (b := 12) (by omega) (by omega)) h146)
    exact hQ σ _ h1 h2 h3
  | succ m ih =>
    intro k σ hm h1 h2 h3
    refine Ev_iload rfl rfl ?_
    refine Ev_const rfl ?_
    refine Ev_icmp_ge rfl (fun h146 => absurd h146 (nI_ge (b := 12) (by omega) (by omega))) (fun h146 => ?_)
    refine Ev_aload rfl rfl rfl ?_
    refine Ev_getR rfl (by first | rfl | assumption) (hρ _ _ _ rfl) ?_
    refine Ev_const rfl ?_
    refine Ev_iload rfl rfl ?_
    refine Ev_iadd rfl ?_
    refine Ev_norm (nI_add 12 k) ?_
    refine Ev_aload rfl rfl rfl ?_
    refine Ev_getR rfl (by first | rfl | assumption) (hρ _ _ _ rfl) ?_
    refine Ev_iload rfl rfl ?_
    refine Ev_iald rfl (by first | rfl | assumption) (vp_in_nI (n := k) (show k < 24 by omega) (by decide)) ?_
    refine Ev_norm (by rw [nI_clamp (by omega)]; exact h2 k (Or.inl (by omega)) : _ = σ0.1 360 k) ?_
    refine Ev_iast rfl (by first | rfl | assumption) (vp_in_nI (n := 12 + k) (show 12 + k < 24 by omega) (by decide)) ?_
    refine Ev_iincE rfl rfl (nI_1 k) ?_
    refine Ev_goto rfl ?_
    rw [nI_clamp (show 12 + k < 2 ^ 31 by omega)]
    refine ih (k + 1) _ (by omega) (fun j hj => ?_) (fun j hj => ?_) (h3.tr (MF.cell _ (by decide) rfl))
    · rw [sR_0]
      by_cases hz : j = k
      · rw [hz, pk_us]
      · rw [pk_un (by omega)]; exact h1 j (by omega)
    · rw [sR_0, pk_un (by omega)]; exact h2 j (by omega)
theorem sd_codes (d : Nat) {n : Nat} (hρ : RF ρ) {σ0 : St} {Q : Po} (hn : n ≤ 1600) (hf : σ0.1 326 48 = nI n) (hQ : ∀ σ' L, (∀ j, j < n → σ'.1 364 (1600 + j) = σ0.1 364 j) → (∀ j, (j < 1600 ∨ 1600 + n ≤ j) → σ'.1 364 j = σ0.1 364 j) → M1 364 σ0 σ' → Ev l X d 190 202 [.ref 326, L] [] 402 402 402 ρ σ' Q) :
    ∀ (m k : Nat) (σ : St), k + m = n → (∀ j, j < k → σ.1 364 (1600 + j) = σ0.1 364 j) → (∀ j, (j < 1600 ∨ 1600 + k ≤ j) → σ.1 364 j = σ0.1 364 j) → M1 364 σ0 σ → Ev l X d 190 172 [.ref 326, .int (nI k)] [] 402 402 402 ρ σ Q := by
  intro m
  induction m with
  | zero =>
    intro k σ hm h1 h2 h3
    obtain rfl : k = n := by omega
    refine Ev_iload rfl rfl ?_
    refine Ev_aload rfl rfl rfl ?_
    refine Ev_getI rfl (by first | rfl | assumption) ?_
    refine Ev_norm (by rw [h3.2.2 _ rfl]; exact hf : _ = nI k) ?_
    refine Ev_icmp_ge rfl (fun h177 => ?_) (fun h177 => absurd (nI_le (a := k) (b := k) (by omega) (by omega)) h177)
    exact hQ σ _ h1 h2 h3
  | succ m ih =>
    intro k σ hm h1 h2 h3
    refine Ev_iload rfl rfl ?_
    refine Ev_aload rfl rfl rfl ?_
    refine Ev_getI rfl (by first | rfl | assumption) ?_
    refine Ev_norm (by rw [h3.2.2 _ rfl]; exact hf : _ = nI n) ?_
    refine Ev_icmp_ge rfl (fun h177 => absurd h177 (nI_ge (b := n) (by omega) (by omega))) (fun h177 => ?_)
    refine Ev_aload rfl rfl rfl ?_
    refine Ev_getR rfl (by first | rfl | assumption) (hρ _ _ _ rfl) ?_
    refine Ev_const rfl ?_
    refine Ev_iload rfl rfl ?_
    refine Ev_iadd rfl ?_
    refine Ev_norm (nI_add 1600 k) ?_
    refine Ev_aload rfl rfl rfl ?_
    refine Ev_getR rfl (by first | rfl | assumption) (hρ _ _ _ rfl) ?_
    refine Ev_iload rfl rfl ?_
    refine Ev_iald rfl (by first | rfl | assumption) (vp_in_nI (n := k) (show k < 3200 by omega) (by decide)) ?_
    refine Ev_norm (by rw [nI_clamp (by omega)]; exact h2 k (Or.inl (by omega)) : _ = σ0.1 364 k) ?_
    refine Ev_iast rfl (by first | rfl | assumption) (vp_in_nI (n := 1600 + k) (show 1600 + k < 3200 by omega) (by decide)) ?_
    refine Ev_iincE rfl rfl (nI_1 k) ?_
    refine Ev_goto rfl ?_
    rw [nI_clamp (show 1600 + k < 2 ^ 31 by omega)]
    refine ih (k + 1) _ (by omega) (fun j hj => ?_) (fun j hj => ?_) (h3.tr (MF.cell _ (by decide) rfl))
    · rw [sR_0]
      by_cases hz : j = k
      · rw [hz, pk_us]
      · rw [pk_un (by omega)]; exact h1 j (by omega)
    · rw [sR_0, pk_un (by omega)]; exact h2 j (by omega)
theorem sd_code (d : Nat) (hρ : RF ρ) {σ0 : St} {Q : Po} (hQ : ∀ σ' L, (∀ j, j < 4 → σ'.1 362 (4 + j) = σ0.1 362 j ∧ σ'.1 363 (4 + j) = σ0.1 363 j) → (∀ j, j < 4 → σ'.1 362 j = σ0.1 362 j ∧ σ'.1 363 j = σ0.1 363 j) → MF (fun q => Nat.beq q 362 || Nat.beq q 363) (fun _ => false) σ0 σ' → Ev l X d 190 68 [.ref 326, L] [] 402 402 402 ρ σ' Q) :
    ∀ (m k : Nat) (σ : St), k + m = 4 → (∀ j, j < k → σ.1 362 (4 + j) = σ0.1 362 j ∧ σ.1 363 (4 + j) = σ0.1 363 j) → (∀ j, j < 4 → σ.1 362 j = σ0.1 362 j ∧ σ.1 363 j = σ0.1 363 j) → MF (fun q => Nat.beq q 362 || Nat.beq q 363) (fun _ => false) σ0 σ → Ev l X d 190 29 [.ref 326, .int (nI k)] [] 402 402 402 ρ σ Q := by
  intro m
  induction m with
  | zero =>
    intro k σ hm h1 h2 h3
    obtain rfl : k = 4 := by omega
    refine Ev_iload rfl rfl ?_
    refine Ev_const rfl ?_
    refine Ev_icmp_ge rfl (fun h31 => ?_) (fun h31 => absurd (nI_le (a := 4) (b := 4) (by omega) (by omega)) h31)
    exact hQ σ _ h1 h2 h3
  | succ m ih =>
    intro k σ hm h1 h2 h3
    refine Ev_iload rfl rfl ?_
    refine Ev_const rfl ?_
    refine Ev_icmp_ge rfl (fun h31 => absurd h31 (nI_ge (b := 4) (by omega) (by omega))) (fun h31 => ?_)
    refine Ev_aload rfl rfl rfl ?_
    refine Ev_getR rfl (by first | rfl | assumption) (hρ _ _ _ rfl) ?_
    refine Ev_const rfl ?_
    refine Ev_iload rfl rfl ?_
    refine Ev_iadd rfl ?_
    refine Ev_norm (nI_add 4 k) ?_
    refine Ev_aload rfl rfl rfl ?_
    refine Ev_getR rfl (by first | rfl | assumption) (hρ _ _ _ rfl) ?_
    refine Ev_iload rfl rfl ?_
    refine Ev_iald rfl (by first | rfl | assumption) (vp_in_nI (n := k) (show k < 8 by omega) (by decide)) ?_
    refine Ev_norm (by rw [nI_clamp (by omega)]; exact (h2 k (by omega)).1 : _ = σ0.1 362 k) ?_
    refine Ev_iast rfl (by first | rfl | assumption) (vp_in_nI (n := 4 + k) (show 4 + k < 8 by omega) (by decide)) ?_
    refine Ev_aload rfl rfl rfl ?_
    refine Ev_getR rfl (by first | rfl | assumption) (hρ _ _ _ rfl) ?_
    refine Ev_const rfl ?_
    refine Ev_iload rfl rfl ?_
    refine Ev_iadd rfl ?_
    refine Ev_norm (nI_add 4 k) ?_
    refine Ev_aload rfl rfl rfl ?_
    refine Ev_getR rfl (by first | rfl | assumption) (hρ _ _ _ rfl) ?_
    refine Ev_iload rfl rfl ?_
    refine Ev_iald rfl (by first | rfl | assumption) (vp_in_nI (n := k) (show k < 8 by omega) (by decide)) ?_
    refine Ev_norm (by rw [nI_clamp (show k < 2 ^ 31 by omega), sR_1 _ _ (by decide)]; exact (h2 k (by omega)).2 : _ = σ0.1 363 k) ?_
    refine Ev_iast rfl (by first | rfl | assumption) (vp_in_nI (n := 4 + k) (show 4 + k < 8 by omega) (by decide)) ?_
    refine Ev_iincE rfl rfl (nI_1 k) ?_
    refine Ev_goto rfl ?_
    rw [nI_clamp (show 4 + k < 2 ^ 31 by omega)]
    refine ih (k + 1) _ (by omega) (fun j hj => ⟨?_, ?_⟩) (fun j hj => ⟨?_, ?_⟩) ((h3.tr (MF.cell _ (by decide) rfl)).tr (MF.cell _ (by decide) rfl))
    · rw [sR_1 _ _ (by decide), sR_0]
      by_cases hz : j = k
      · rw [hz, pk_us]
      · rw [pk_un (by omega)]; exact (h1 j (by omega)).1
    · rw [sR_0]
      by_cases hz : j = k
      · rw [hz, pk_us]
      · rw [pk_un (by omega), sR_1 _ _ (by decide)]; exact (h1 j (by omega)).2
    · rw [sR_1 _ _ (by decide), sR_0, pk_un (by omega)]; exact (h2 j hj).1
    · rw [sR_0, pk_un (by omega), sR_1 _ _ (by decide)]; exact (h2 j hj).2
theorem sd_idea (d : Nat) (hρ : RF ρ) {σ0 : St} {Q : Po} (hQ : ∀ σ' L, (∀ j, j < 8 → σ'.1 358 (8 + j) = σ0.1 358 j ∧ σ'.1 359 (8 + j) = σ0.1 359 j) → (∀ j, j < 8 → σ'.1 358 j = σ0.1 358 j ∧ σ'.1 359 j = σ0.1 359 j) → MF (fun q => Nat.beq q 358 || Nat.beq q 359) (fun _ => false) σ0 σ' → Ev l X d 190 141 [.ref 326, L] [] 402 402 402 ρ σ' Q) :
    ∀ (m k : Nat) (σ : St), k + m = 8 → (∀ j, j < k → σ.1 358 (8 + j) = σ0.1 358 j ∧ σ.1 359 (8 + j) = σ0.1 359 j) → (∀ j, j < 8 → σ.1 358 j = σ0.1 358 j ∧ σ.1 359 j = σ0.1 359 j) → MF (fun q => Nat.beq q 358 || Nat.beq q 359) (fun _ => false) σ0 σ → Ev l X d 190 99 [.ref 326, .int (nI k)] [] 402 402 402 ρ σ Q := by
  intro m
  induction m with
  | zero =>
    intro k σ hm h1 h2 h3
    obtain rfl : k = 8 := by omega
    refine Ev_iload rfl rfl ?_
    refine Ev_const rfl ?_
    refine Ev_icmp_ge rfl (fun h102 => ?_) (fun h102 => absurd (nI_le (a := 8) (b := 8) (by omega) (by omega)) h102)
    exact hQ σ _ h1 h2 h3
  | succ m ih =>
    intro k σ hm h1 h2 h3
    refine Ev_iload rfl rfl ?_
    refine Ev_const rfl ?_
    refine Ev_icmp_ge rfl (fun h102 => absurd h102 (nI_ge (b := 8) (by omega) (by omega))) (fun h102 => ?_)
    refine Ev_aload rfl rfl rfl ?_
    refine Ev_getR rfl (by first | rfl | assumption) (hρ _ _ _ rfl) ?_
    refine Ev_const rfl ?_
    refine Ev_iload rfl rfl ?_
    refine Ev_iadd rfl ?_
    refine Ev_norm (nI_add 8 k) ?_
    refine Ev_aload rfl rfl rfl ?_
    refine Ev_getR rfl (by first | rfl | assumption) (hρ _ _ _ rfl) ?_
    refine Ev_iload rfl rfl ?_
    refine Ev_iald rfl (by first | rfl | assumption) (vp_in_nI (n := k) (show k < 16 by omega) (by decide)) ?_
    refine Ev_norm (by rw [nI_clamp (by omega)]; exact (h2 k (by omega)).1 : _ = σ0.1 358 k) ?_
    refine Ev_iast rfl (by first | rfl | assumption) (vp_in_nI (n := 8 + k) (show 8 + k < 16 by omega) (by decide)) ?_
    refine Ev_aload rfl rfl rfl ?_
    refine Ev_getR rfl (by first | rfl | assumption) (hρ _ _ _ rfl) ?_
    refine Ev_const rfl ?_
    refine Ev_iload rfl rfl ?_
    refine Ev_iadd rfl ?_
    refine Ev_norm (nI_add 8 k) ?_
    refine Ev_aload rfl rfl rfl ?_
    refine Ev_getR rfl (by first | rfl | assumption) (hρ _ _ _ rfl) ?_
    refine Ev_iload rfl rfl ?_
    refine Ev_iald rfl (by first | rfl | assumption) (vp_in_nI (n := k) (show k < 16 by omega) (by decide)) ?_
    refine Ev_norm (by rw [nI_clamp (show k < 2 ^ 31 by omega), sR_1 _ _ (by decide)]; exact (h2 k (by omega)).2 : _ = σ0.1 359 k) ?_
    refine Ev_iast rfl (by first | rfl | assumption) (vp_in_nI (n := 8 + k) (show 8 + k < 16 by omega) (by decide)) ?_
    refine Ev_iincE rfl rfl (nI_1 k) ?_
    refine Ev_goto rfl ?_
    rw [nI_clamp (show 8 + k < 2 ^ 31 by omega)]
    refine ih (k + 1) _ (by omega) (fun j hj => ⟨?_, ?_⟩) (fun j hj => ⟨?_, ?_⟩) ((h3.tr (MF.cell _ (by decide) rfl)).tr (MF.cell _ (by decide) rfl))
    · rw [sR_1 _ _ (by decide), sR_0]
      by_cases hz : j = k
      · rw [hz, pk_us]
      · rw [pk_un (by omega)]; exact (h1 j (by omega)).1
    · rw [sR_0]
      by_cases hz : j = k
      · rw [hz, pk_us]
      · rw [pk_un (by omega), sR_1 _ _ (by decide)]; exact (h1 j (by omega)).2
    · rw [sR_1 _ _ (by decide), sR_0, pk_un (by omega)]; exact (h2 j hj).1
    · rw [sR_0, pk_un (by omega), sR_1 _ _ (by decide)]; exact (h2 j hj).2
theorem sd_names (d : Nat) (hρ : RF ρ) {σ0 : St} {Q : Po} (hQ : ∀ σ' L, (∀ j, j < 16 → σ'.2 357 (16 + j) = σ0.2 357 j) → σ'.1 = σ0.1 → (∀ q, q ≠ 357 → σ'.2 q = σ0.2 q) → Ev l X d 190 97 [.ref 326, L] [] 402 402 402 ρ σ' Q) :
    ∀ (m k : Nat) (σ : St), k + m = 16 → (∀ j, j < k → σ.2 357 (16 + j) = σ0.2 357 j) → (∀ j, j < 16 → σ.2 357 j = σ0.2 357 j) → σ.1 = σ0.1 → (∀ q, q ≠ 357 → σ.2 q = σ0.2 q) → Ev l X d 190 70 [.ref 326, .int (nI k)] [] 402 402 402 ρ σ Q := by
  intro m
  induction m with
  | zero =>
    intro k σ hm h1 h2 h3 h4
    obtain rfl : k = 16 := by omega
    refine Ev_iload rfl rfl ?_
    refine Ev_const rfl ?_
    refine Ev_icmp_ge rfl (fun h73 => ?_) (fun h73 => absurd (nI_le (a := 16) (b := 16) (by omega) (by omega)) h73)
    exact hQ σ _ h1 h3 h4
  | succ m ih =>
    intro k σ hm h1 h2 h3 h4
    refine Ev_iload rfl rfl ?_
    refine Ev_const rfl ?_
    refine Ev_icmp_ge rfl (fun h73 => absurd h73 (nI_ge (b := 16) (by omega) (by omega))) (fun h73 => ?_)
    refine Ev_aload rfl rfl rfl ?_
    refine Ev_getR rfl (by first | rfl | assumption) (hρ _ _ _ rfl) ?_
    refine Ev_const rfl ?_
    refine Ev_iload rfl rfl ?_
    refine Ev_iadd rfl ?_
    refine Ev_norm (nI_add 16 k) ?_
    refine Ev_aload rfl rfl rfl ?_
    refine Ev_getR rfl (by first | rfl | assumption) (hρ _ _ _ rfl) ?_
    refine Ev_iload rfl rfl ?_
    refine Ev_lald rfl (by first | rfl | assumption) (vp_in_nI (n := k) (show k < 32 by omega) (by decide)) ?_
    refine Ev_normL (by rw [nI_clamp (by omega)]; exact h2 k (by omega) : _ = σ0.2 357 k) ?_
    refine Ev_last rfl (by first | rfl | assumption) (vp_in_nI (n := 16 + k) (show 16 + k < 32 by omega) (by decide)) ?_
    refine Ev_iincE rfl rfl (nI_1 k) ?_
    refine Ev_goto rfl ?_
    rw [nI_clamp (show 16 + k < 2 ^ 31 by omega)]
    refine ih (k + 1) _ (by omega) (fun j hj => ?_) (fun j hj => ?_) h3 (fun q hq => (if_neg hq : (sL σ 357 _).2 q = σ.2 q).trans (h4 q hq))
    · rw [sL_0]
      by_cases hz : j = k
      · rw [hz, updL_s]
      · rw [updL_n (by omega)]; exact h1 j (by omega)
    · rw [sL_0, updL_n (by omega)]; exact h2 j hj
theorem sd_zero (d : Nat) (hρ : RF ρ) {σ0 : St} {Q : Po} (hQ : ∀ σ' L, (∀ j, j < 242 → σ'.1 365 j = nI 0) → M1 365 σ0 σ' → Ev l X d 190 224 [.ref 326, L] [] 402 402 402 ρ σ' Q) :
    ∀ (m k : Nat) (σ : St), k + m = 242 → (∀ j, j < k → σ.1 365 j = nI 0) → M1 365 σ0 σ → Ev l X d 190 204 [.ref 326, .int (nI k)] [] 402 402 402 ρ σ Q := by
  intro m
  induction m with
  | zero =>
    intro k σ hm h1 h3
    obtain rfl : k = 242 := by omega
    refine Ev_iload rfl rfl ?_
    refine Ev_const rfl ?_
    refine Ev_icmp_ge rfl (fun h208 => ?_) (fun h208 => absurd (nI_le (a := 242) (b := 242) (by omega) (by omega)) h208)
    exact hQ σ _ h1 h3
  | succ m ih =>
    intro k σ hm h1 h3
    refine Ev_iload rfl rfl ?_
    refine Ev_const rfl ?_
    refine Ev_icmp_ge rfl (fun h208 => absurd h208 (nI_ge (b := 242) (by omega) (by omega))) (fun h208 => ?_)
    refine Ev_aload rfl rfl rfl ?_
    refine Ev_getR rfl (by first | rfl | assumption) (hρ _ _ _ rfl) ?_
    refine Ev_iload rfl rfl ?_
    refine Ev_const rfl ?_
    refine Ev_iast rfl (by first | rfl | assumption) (vp_in_nI (n := k) (show k < 242 by omega) (by decide)) ?_
    refine Ev_iincE rfl rfl (nI_1 k) ?_
    refine Ev_goto rfl ?_
    rw [nI_clamp (show k < 2 ^ 31 by omega)]
    refine ih (k + 1) _ (by omega) (fun j hj => ?_) (h3.tr (MF.cell _ (by decide) rfl))
    rw [sR_0]
    by_cases hz : j = k
    · rw [hz, pk_us]; rfl
    · rw [pk_un hz]; exact h1 j (by omega)
theorem sd_plan (d : Nat) {n : Nat} (hρ : RF ρ) (hn : n ≤ 16) {σ0 : St} {Q : Po} (hf : σ0.1 356 3 = nI n) (hQ : ∀ σ' L, (∀ j, j < 2 * n → σ'.1 365 (49 + j) = σ0.1 361 j) → (∀ j, (j < 49 ∨ 49 + 2 * n ≤ j) → σ'.1 365 j = σ0.1 365 j) → M1 365 σ0 σ' → Ev l X d 190 259 [.ref 326, L] [] 402 402 402 ρ σ' Q) :
    ∀ (m k : Nat) (σ : St), k + m = 2 * n → (∀ j, j < k → σ.1 365 (49 + j) = σ0.1 361 j) → (∀ j, (j < 49 ∨ 49 + k ≤ j) → σ.1 365 j = σ0.1 365 j) → M1 365 σ0 σ → Ev l X d 190 226 [.ref 326, .int (nI k)] [] 402 402 402 ρ σ Q := by
  intro m
  induction m with
  | zero =>
    intro k σ hm h1 h2 h3
    obtain rfl : k = 2 * n := by omega
    refine Ev_iload rfl rfl ?_
    refine Ev_const rfl ?_
    refine Ev_aload rfl rfl rfl ?_
    refine Ev_getR rfl (by first | rfl | assumption) (hρ _ _ _ rfl) ?_
    refine Ev_const rfl ?_
    refine Ev_iald rfl (by first | rfl | assumption) (vp_in_nI (n := 3) (by decide) (by decide)) ?_
    refine Ev_norm (by rw [h3.1 _ (by decide) rfl]; exact hf : _ = nI n) ?_
    refine Ev_imul rfl ?_
    refine Ev_norm (pk_mul 2 n) ?_
    refine Ev_icmp_ge rfl (fun h235 => ?_) (fun h235 => absurd (nI_le (a := 2 * n) (b := 2 * n) (by omega) (by omega)) h235)
    exact hQ σ _ h1 h2 h3
  | succ m ih =>
    intro k σ hm h1 h2 h3
    refine Ev_iload rfl rfl ?_
    refine Ev_const rfl ?_
    refine Ev_aload rfl rfl rfl ?_
    refine Ev_getR rfl (by first | rfl | assumption) (hρ _ _ _ rfl) ?_
    refine Ev_const rfl ?_
    refine Ev_iald rfl (by first | rfl | assumption) (vp_in_nI (n := 3) (by decide) (by decide)) ?_
    refine Ev_norm (by rw [h3.1 _ (by decide) rfl]; exact hf : _ = nI n) ?_
    refine Ev_imul rfl ?_
    refine Ev_norm (pk_mul 2 n) ?_
    refine Ev_icmp_ge rfl (fun h235 => absurd h235 (nI_ge (b := 2 * n) (by omega) (by omega))) (fun h235 => ?_)
    refine Ev_aload rfl rfl rfl ?_
    refine Ev_getR rfl (by first | rfl | assumption) (hρ _ _ _ rfl) ?_
    refine Ev_const rfl ?_
    refine Ev_iload rfl rfl ?_
    refine Ev_iadd rfl ?_
    refine Ev_norm (nI_add 49 k) ?_
    refine Ev_aload rfl rfl rfl ?_
    refine Ev_getR rfl (by first | rfl | assumption) (hρ _ _ _ rfl) ?_
    refine Ev_iload rfl rfl ?_
    refine Ev_iald rfl (by first | rfl | assumption) (vp_in_nI (n := k) (show k < 32 by omega) (by decide)) ?_
    refine Ev_norm (by rw [nI_clamp (by omega)]; exact congrFun (h3.1 _ (by decide) rfl) k : _ = σ0.1 361 k) ?_
    refine Ev_iast rfl (by first | rfl | assumption) (vp_in_nI (n := 49 + k) (show 49 + k < 242 by omega) (by decide)) ?_
    refine Ev_iincE rfl rfl (nI_1 k) ?_
    refine Ev_goto rfl ?_
    rw [nI_clamp (show 49 + k < 2 ^ 31 by omega)]
    refine ih (k + 1) _ (by omega) (fun j hj => ?_) (fun j hj => ?_) (h3.tr (MF.cell _ (by decide) rfl))
    · rw [sR_0]
      by_cases hz : j = k
      · rw [hz, pk_us]
      · rw [pk_un (by omega)]; exact h1 j (by omega)
    · rw [sR_0, pk_un (by omega)]; exact h2 j (by omega)
theorem sd_next1 (d : Nat) {σ : St} {L : Value} {Q : Po} (hQ : Ev l X d 190 29 [.ref 326, .int (nI 0)] [] 402 402 402 ρ σ Q) : Ev l X d 190 27 [.ref 326, L] [] 402 402 402 ρ σ Q := by
  refine Ev_const rfl ?_
  refine Ev_istore rfl ?_
  exact hQ
theorem sd_next2 (d : Nat) {σ : St} {L : Value} {Q : Po} (hQ : Ev l X d 190 70 [.ref 326, .int (nI 0)] [] 402 402 402 ρ σ Q) : Ev l X d 190 68 [.ref 326, L] [] 402 402 402 ρ σ Q := by
  refine Ev_const rfl ?_
  refine Ev_istore rfl ?_
  exact hQ
theorem sd_next3 (d : Nat) {σ : St} {L : Value} {Q : Po} (hQ : Ev l X d 190 99 [.ref 326, .int (nI 0)] [] 402 402 402 ρ σ Q) : Ev l X d 190 97 [.ref 326, L] [] 402 402 402 ρ σ Q := by
  refine Ev_const rfl ?_
  refine Ev_istore rfl ?_
  exact hQ
theorem sd_next4 (d : Nat) {σ : St} {L : Value} {Q : Po} (hQ : Ev l X d 190 143 [.ref 326, .int (nI 0)] [] 402 402 402 ρ σ Q) : Ev l X d 190 141 [.ref 326, L] [] 402 402 402 ρ σ Q := by
  refine Ev_const rfl ?_
  refine Ev_istore rfl ?_
  exact hQ
theorem sd_next5 (d : Nat) {σ : St} {L : Value} {Q : Po} (hQ : Ev l X d 190 172 [.ref 326, .int (nI 0)] [] 402 402 402 ρ σ Q) : Ev l X d 190 170 [.ref 326, L] [] 402 402 402 ρ σ Q := by
  refine Ev_const rfl ?_
  refine Ev_istore rfl ?_
  exact hQ
theorem sd_next6 (d : Nat) {σ : St} {L : Value} {Q : Po} (hQ : Ev l X d 190 204 [.ref 326, .int (nI 0)] [] 402 402 402 ρ σ Q) : Ev l X d 190 202 [.ref 326, L] [] 402 402 402 ρ σ Q := by
  refine Ev_const rfl ?_
  refine Ev_istore rfl ?_
  exact hQ
theorem sd_next7 (d : Nat) {σ : St} {L : Value} {Q : Po} (hQ : Ev l X d 190 226 [.ref 326, .int (nI 0)] [] 402 402 402 ρ σ Q) : Ev l X d 190 224 [.ref 326, L] [] 402 402 402 ρ σ Q := by
  refine Ev_const rfl ?_
  refine Ev_istore rfl ?_
  exact hQ
theorem sd_last (d : Nat) {σ : St} {L : Value} {Q : Po} (hQ : Q none ρ (sI (sI σ 326 (upd (σ.1 326) 73 (nI 0))) 326 (upd ((sI σ 326 (upd (σ.1 326) 73 (nI 0))).1 326) 69 (nI 0)))) : Ev l X d 190 259 [.ref 326, L] [] 402 402 402 ρ σ Q := by
  refine Ev_aload rfl rfl rfl ?_
  refine Ev_const rfl ?_
  refine Ev_putI rfl (by first | rfl | assumption) ⟨rfl, rfl⟩ rfl ?_
  refine Ev_aload rfl rfl rfl ?_
  refine Ev_const rfl ?_
  refine Ev_putI rfl (by first | rfl | assumption) ⟨rfl, rfl⟩ rfl ?_
  exact Ev_return rfl rfl rfl hQ
/-- how all begins on a beach -/
def plF (B : Bh) (j : Nat) : Nat := if j % 2 = 0 then plb B (j / 2) else pli B (j / 2)
def Mo0 (B : Bh) : Mo := (0, (fun _ _ => 0), plF B, (0, fun _ => 0))
theorem WfM_0 {B : Bh} (h : WfB B) : WfM B (Mo0 B) := by
  obtain ⟨_, ⟨_, _, t3⟩, _⟩ := h
  refine ⟨Nat.zero_le _, fun b i => ⟨Nat.zero_le _, fun _ => rfl⟩, ?_, Nat.zero_le _⟩
  intro k hk
  show plF B (2 * k) < nb B ∧ plF B (2 * k + 1) < ni B
  unfold plF
  rw [if_pos (by omega), if_neg (by omega), show 2 * k / 2 = k by omega, show (2 * k + 1) / 2 = k by omega]
  exact t3 k hk
def cSd (q : Nat) : Bool := Nat.beq q 356 || Nat.beq q 358 || Nat.beq q 359 || Nat.beq q 360 || Nat.beq q 362 || Nat.beq q 363 || Nat.beq q 364 || Nat.beq q 365
theorem m_stands (d : Nat) {σ : St} (hρ : RF ρ) (hB : WfB B) (hfl : flen B ≤ 1600) (H : MNew σ B) :
    T l X d 190 [.ref 326] 402 402 ρ σ (fun v ρ' σ' => v = none ∧ ρ' = ρ ∧ MOld σ' B ∧ MMo (σ'.1 365) B (Mo0 B) ∧ σ'.1 326 73 = nI 0 ∧ σ'.1 326 69 = nI 0 ∧ (∀ q, q ≠ 326 → cSd q = false → σ'.1 q = σ.1 q) ∧ (∀ q, q ≠ 357 → q ≠ 400 → σ'.2 q = σ.2 q) ∧ ∀ j, j ≠ 73 → j ≠ 69 → σ'.1 326 j = σ.1 326 j) := by
  obtain ⟨g1, ⟨g2, g3⟩, ⟨g4, g5, g6⟩, g7, g8⟩ := H
  have w8 : ni B ≤ 8 := hB.1.1
  have w6 : nb B ≤ 6 := hB.1.2.1
  have w16 : np B ≤ 16 := hB.1.2.2.2.1
  refine T_of rfl ?_
  refine Ev_const rfl ?_
  refine Ev_istore rfl ?_
  refine sd_many d hρ (fun σ1 L1 a1 b1 c1 => ?_) 5 0 σ rfl (fun j hj => absurd hj (Nat.not_lt_zero j)) (fun _ _ => rfl) (MF.rf _ _ _)
  refine sd_next1 d ?_
  refine sd_code d hρ (fun σ2 L2 a2 b2 c2 => ?_) 4 0 σ1 rfl (fun j hj => absurd hj (Nat.not_lt_zero j)) (fun _ _ => ⟨rfl, rfl⟩) (MF.rf _ _ _)
  refine sd_next2 d ?_
  refine sd_names d hρ (fun σ3 L3 a3 c3 l3 => ?_) 16 0 σ2 rfl (fun j hj => absurd hj (Nat.not_lt_zero j)) (fun _ _ => rfl) rfl (fun _ _ => rfl)
  refine sd_next3 d ?_
  refine sd_idea d hρ (fun σ4 L4 a4 b4 c4 => ?_) 8 0 σ3 rfl (fun j hj => absurd hj (Nat.not_lt_zero j)) (fun _ _ => ⟨rfl, rfl⟩) (MF.rf _ _ _)
  refine sd_next4 d ?_
  refine sd_bath d hρ (fun σ5 L5 a5 b5 c5 => ?_) 12 0 σ4 rfl (fun j hj => absurd hj (Nat.not_lt_zero j)) (fun _ _ => rfl) (MF.rf _ _ _)
  refine sd_next5 d ?_
  have hcd : σ5.1 326 48 = nI (flen B) := by rw [c5.2.2 _ rfl, c4.2.2 _ rfl, c3, c2.2.2 _ rfl, c1.2.2 _ rfl]; exact g8
  refine sd_codes d hρ hfl hcd (fun σ6 L6 a6 b6 c6 => ?_) (flen B) 0 σ5 (Nat.zero_add _) (fun j hj => absurd hj (Nat.not_lt_zero j)) (fun _ _ => rfl) (MF.rf _ _ _)
  refine sd_next6 d ?_
  refine sd_zero d hρ (fun σ7 L7 a7 c7 => ?_) 242 0 σ6 rfl (fun j hj => absurd hj (Nat.not_lt_zero j)) (MF.rf _ _ _)
  refine sd_next7 d ?_
  have k1 : ∀ q, q ≠ 326 → q ≠ 356 → σ1.1 q = σ.1 q := fun q q1 q2 => c1.1 q q1 (nbeq q2)
  have k2 : ∀ q, q ≠ 326 → q ≠ 362 → q ≠ 363 → σ2.1 q = σ1.1 q := fun q q1 q2 q3 => c2.1 q q1 (by show (Nat.beq q _ || Nat.beq q _) = false; rw [nbeq q2, nbeq q3]; rfl)
  have k4 : ∀ q, q ≠ 326 → q ≠ 358 → q ≠ 359 → σ4.1 q = σ3.1 q := fun q q1 q2 q3 => c4.1 q q1 (by show (Nat.beq q _ || Nat.beq q _) = false; rw [nbeq q2, nbeq q3]; rfl)
  have k5 : ∀ q, q ≠ 326 → q ≠ 360 → σ5.1 q = σ4.1 q := fun q q1 q2 => c5.1 q q1 (nbeq q2)
  have k6 : ∀ q, q ≠ 326 → q ≠ 364 → σ6.1 q = σ5.1 q := fun q q1 q2 => c6.1 q q1 (nbeq q2)
  have k7 : ∀ q, q ≠ 326 → q ≠ 365 → σ7.1 q = σ6.1 q := fun q q1 q2 => c7.1 q q1 (nbeq q2)
  have hpl : σ7.1 356 3 = nI (np B) := by
    rw [k7 _ (by decide) (by decide), k6 _ (by decide) (by decide), k5 _ (by decide) (by decide), k4 _ (by decide) (by decide) (by decide), c3, k2 _ (by decide) (by decide) (by decide), b1 3 (Or.inl (by decide))]
    exact g1 3 (by decide)
  refine sd_plan d hρ w16 hpl (fun σ8 L8 a8 b8 c8 => ?_) (2 * np B) 0 σ7 (Nat.zero_add _) (fun j hj => absurd hj (Nat.not_lt_zero j)) (fun _ _ => rfl) (MF.rf _ _ _)
  have k8 : ∀ q, q ≠ 326 → q ≠ 365 → σ8.1 q = σ7.1 q := fun q q1 q2 => c8.1 q q1 (nbeq q2)
  refine sd_last d ?_
  have K : ∀ q, q ≠ 326 → (sI (sI σ8 326 (upd (σ8.1 326) 73 (nI 0))) 326 (upd ((sI σ8 326 (upd (σ8.1 326) 73 (nI 0))).1 326) 69 (nI 0))).1 q = σ8.1 q := fun q q1 => by rw [sR_1 _ _ q1, sR_1 _ _ q1]
  have hmany : ∀ q, q < 5 → σ8.1 356 (5 + q) = nI (B.1 q) := fun q hq => by
    rw [k8 _ (by decide) (by decide), k7 _ (by decide) (by decide), k6 _ (by decide) (by decide), k5 _ (by decide) (by decide), k4 _ (by decide) (by decide) (by decide), c3, k2 _ (by decide) (by decide) (by decide), a1 q hq]
    exact g1 q hq
  have hnam : ∀ j, j < 16 → σ8.2 357 (16 + j) = σ.2 357 j := fun j hj => by
    rw [c8.2.1 _ (by decide), c7.2.1 _ (by decide), c6.2.1 _ (by decide), c5.2.1 _ (by decide), c4.2.1 _ (by decide), a3 j hj, c2.2.1 _ (by decide), c1.2.1 _ (by decide)]
  have hide : ∀ j, j < 8 → σ8.1 358 (8 + j) = σ.1 358 j ∧ σ8.1 359 (8 + j) = σ.1 359 j := fun j hj => by
    rw [k8 _ (by decide) (by decide), k7 _ (by decide) (by decide), k6 _ (by decide) (by decide), k5 _ (by decide) (by decide), (a4 j hj).1, k8 359 (by decide) (by decide), k7 359 (by decide) (by decide), k6 359 (by decide) (by decide), k5 359 (by decide) (by decide), (a4 j hj).2, c3, k2 _ (by decide) (by decide) (by decide), k1 _ (by decide) (by decide), k2 359 (by decide) (by decide) (by decide), k1 359 (by decide) (by decide)]
    exact ⟨rfl, rfl⟩
  have hbat : ∀ j, j < 12 → σ8.1 360 (12 + j) = σ.1 360 j := fun j hj => by
    rw [k8 _ (by decide) (by decide), k7 _ (by decide) (by decide), k6 _ (by decide) (by decide), a5 j hj, k4 _ (by decide) (by decide) (by decide), c3, k2 _ (by decide) (by decide) (by decide), k1 _ (by decide) (by decide)]
  have hcfr : ∀ j, j < 4 → σ8.1 362 (4 + j) = σ.1 362 j ∧ σ8.1 363 (4 + j) = σ.1 363 j := fun j hj => by
    rw [k8 _ (by decide) (by decide), k7 _ (by decide) (by decide), k6 _ (by decide) (by decide), k5 _ (by decide) (by decide), k4 _ (by decide) (by decide) (by decide), k8 363 (by decide) (by decide), k7 363 (by decide) (by decide), k6 363 (by decide) (by decide), k5 363 (by decide) (by decide), k4 363 (by decide) (by decide) (by decide), c3, (a2 j hj).1, (a2 j hj).2, k1 _ (by decide) (by decide), k1 363 (by decide) (by decide)]
    exact ⟨rfl, rfl⟩
  have hcod : ∀ j, j < flen B → σ8.1 364 (1600 + j) = σ.1 364 j := fun j hj => by
    rw [k8 _ (by decide) (by decide), k7 _ (by decide) (by decide), a6 j hj, k5 _ (by decide) (by decide), k4 _ (by decide) (by decide) (by decide), c3, k2 _ (by decide) (by decide) (by decide), k1 _ (by decide) (by decide)]
  have hpla : ∀ j, j < 2 * np B → σ8.1 365 (49 + j) = nI (plF B j) := fun j hj => by
    rw [a8 j hj, k7 _ (by decide) (by decide), k6 _ (by decide) (by decide), k5 _ (by decide) (by decide), k4 _ (by decide) (by decide) (by decide), c3, k2 _ (by decide) (by decide) (by decide), k1 _ (by decide) (by decide)]
    unfold plF
    by_cases hz : j % 2 = 0
    · rw [if_pos hz]
      have := (g6 (j / 2) (by omega)).1
      rw [show 2 * (j / 2) = j by omega] at this
      exact this
    · rw [if_neg hz]
      have := (g6 (j / 2) (by omega)).2
      rw [show 2 * (j / 2) + 1 = j by omega] at this
      exact this
  have hzer : ∀ j, j < 242 → (j < 49 ∨ 49 + 2 * np B ≤ j) → σ8.1 365 j = nI 0 := fun j hj hj2 => by rw [b8 j hj2]; exact a7 j hj
  refine ⟨rfl, rfl, ⟨?_, ⟨?_, ?_⟩, ?_, ?_, ?_⟩, ?_, ?_, ?_, ?_, ?_, ?_⟩
  · intro q hq; rw [K _ (by decide)]; exact hmany q hq
  · intro i hi; rw [K _ (by decide), K _ (by decide), (hide i (by omega)).1, (hide i (by omega)).2]; exact g4 i hi
  · intro b hb
    rw [K _ (by decide), hbat (2 * b) (by omega), show 13 + 2 * b = 12 + (2 * b + 1) by omega, hbat (2 * b + 1) (by omega)]
    exact g5 b hb
  · intro k hk
    rw [K _ (by decide), K _ (by decide), K _ (by decide), (hcfr k hk).1, (hcfr k hk).2]
    have g := g7 k hk
    cases hf : frm B k with
    | none => rw [hf] at g; exact g
    | some cs =>
      rw [hf] at g
      obtain ⟨a, b, q1, q2, q3, q4, q5⟩ := g
      exact ⟨a, b, q1, q2, q3, by omega, fun q hq => by rw [hcod _ (by omega)]; exact q5 q hq⟩
  · intro i hi
    show σ8.2 357 (16 + i) = _
    rw [hnam i (by omega)]; exact g2 i hi
  · intro b hb
    show σ8.2 357 (24 + b) = _
    rw [show 24 + b = 16 + (8 + b) by omega, hnam (8 + b) (by omega)]; exact g3 b hb
  · rw [K _ (by decide)]
    refine ⟨hzer 0 (by decide) (Or.inl (by decide)), fun b i hb hi => hzer _ (by omega) (Or.inl (by omega)), hpla, hzer 81 (by decide) (Or.inr (by omega)), fun j hj => absurd hj (by show ¬ j < 4 * 0; omega)⟩
  · rw [sR_0, pk_un (by decide), sR_0, pk_us]
  · rw [sR_0, pk_us]
  · intro q q1 hq
    unfold cSd at hq
    simp only [Bool.or_eq_false_iff] at hq
    obtain ⟨⟨⟨⟨⟨⟨⟨h1, h2⟩, h3⟩, h4⟩, h5⟩, h6⟩, h7⟩, h8⟩ := hq
    have nb : ∀ {x y : Nat}, Nat.beq x y = false → x ≠ y := fun h z => by rw [z, Nat.beq_refl] at h; cases h
    rw [K q q1, k8 q q1 (nb h8), k7 q q1 (nb h8), k6 q q1 (nb h7), k5 q q1 (nb h4), k4 q q1 (nb h2) (nb h3), c3, k2 q q1 (nb h5) (nb h6), k1 q q1 (nb h1)]
  · intro q q1 q2
    show σ8.2 q = _
    rw [c8.2.1 q q2, c7.2.1 q q2, c6.2.1 q q2, c5.2.1 q q2, c4.2.1 q q2, l3 q q1, c2.2.1 q q2, c1.2.1 q q2]
  · intro j j1 j2
    rw [sR_0, pk_un j2, sR_0, pk_un j1, c8.2.2 j rfl, c7.2.2 j rfl, c6.2.2 j rfl, c5.2.2 j rfl, c4.2.2 j rfl, c3, c2.2.2 j rfl, c1.2.2 j rfl]
end S88zz
