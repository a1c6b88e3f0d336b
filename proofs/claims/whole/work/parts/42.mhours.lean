/-! Hours, one behind another; what is tried and taken back: the reference. -/
def adS (B : Bh) (P : Nat → Nat) (W : Nat → Nat) (h : Nat) : Nat → Str → Str
  | 0, S => S
  | n + 1, S => hrS B P (adS B P W h n S) W (h + n) (tdM B (h + n))
def adK (B : Bh) (P : Nat → Nat) (S : Str) (W : Nat → Nat) (h : Nat) : Nat → Nat × (Nat → Nat) → Nat × (Nat → Nat)
  | 0, K => K
  | n + 1, K => kpH B P (adS B P W h n S) W (h + n) (tdM B (h + n)) (adK B P S W h n K)
def adC (B : Bh) (P : Nat → Nat) (S : Str) (W : Nat → Nat) (h : Nat) : Nat → Nat
  | 0 => 0
  | n + 1 => adC B P S W h n + dkC B P (adS B P W h n S) W (h + n) (tdM B (h + n))
theorem adS_wf {B : Bh} {P : Nat → Nat} {S : Str} {W : Nat → Nat} {h : Nat} (hP : WfP B P) (hS : WfS B S) (n : Nat) : WfS B (adS B P W h n S) := by
  induction n with
  | zero => exact hS
  | succ n ih => exact hrS_wf hP ih
def cN0 : Nat → Bool := fun _ => false
theorem MTd.mf {σ σ' : St} {t : Nat} (h : MTd σ σ' t) : MF cN0 fH σ σ' := ⟨fun q hq _ => h.1 q hq, h.2.1, fun j hj => h.2.2.1 j (fS_fH j hj) (fun q => by rw [q] at hj; cases hj)⟩
theorem MF.up {C Fd : Nat → Bool} {σ σ' : St} (h : MF cN0 Fd σ σ') : MF C Fd σ σ' := ⟨fun q hq _ => h.1 q hq rfl, h.2.1, h.2.2⟩
section S42
variable {l : Launch} {X : Cx} {ρ : Rf} {B : Bh} {S : Str} {W : Nat → Nat}
def HhQ (B : Bh) (P : Nat → Nat) (S : Str) (W : Nat → Nat) (h n : Nat) (th : Bool) (K : Nat × (Nat → Nat)) (σ σ' : St) : Prop := MF cAN fH σ σ' ∧ MRd σ' B (adS B P W h n S) W (h + n) ∧ (∀ j, 49 ≤ j → j < 81 → σ'.1 365 j = σ.1 365 j) ∧ (th = true → ∀ j, 81 ≤ j → σ'.1 365 j = σ.1 365 j) ∧ MKp σ' th (adK B P S W h n K) ∧ σ'.1 326 61 = nI (adC B P S W h n)
theorem hh_loop {d : Nat} {h N : Nat} {P : Nat → Nat} {th : Bool} {K : Nat × (Nat → Nat)} (hρ : RF ρ) (hW : WfN B) (hWt : WfT B) (hWf : WfF B) (hS : WfS B S) (hP : WfP B P) (hWb : ∀ b, W b ≤ 9) (hh : h + N ≤ 2000) (σ0 : St) (hF0 : MFrm σ0 B) (hPc : ∀ j, j < 2 * np B → σ0.1 365 (49 + j) = nI (P j)) :
    ∀ (m k : Nat) (σ : St), k + m = N → HhQ B P S W h k th K σ0 σ → Ev l X (d + 8) 213 7 [.ref 326, .int (nI N), .int (nI k)] [] 402 402 402 ρ σ (fun v ρ' σ' => v = none ∧ ρ' = ρ ∧ HhQ B P S W h N th K σ0 σ') := by
  have h16 := hW.2.2.2.1
  intro m
  induction m with
  | zero =>
    intro k σ hk hq
    have hk : k = N := by omega
    subst hk
    refine Ev_iload rfl rfl ?_
    refine Ev_iload rfl rfl ?_
    refine Ev_icmp_ge rfl (fun h9 => ?_) (fun h9 => absurd (nI_le (Nat.le_refl k) (by omega)) h9)
    exact Ev_return rfl rfl rfl ⟨rfl, rfl, hq⟩
  | succ m ih =>
    intro k σ hk hq
    obtain ⟨q1, q2, q3, q4, q5, q6⟩ := hq
    have hSk := adS_wf (W := W) (h := h) hP hS k
    have hle : ∀ b i, adS B P W h k S b i ≤ 99 := fun b i => (hSk b i).1
    refine Ev_iload rfl rfl ?_
    refine Ev_iload rfl rfl ?_
    refine Ev_icmp_ge rfl (fun h9 => absurd h9 (nI_ge (by omega) (by omega))) (fun h9 => ?_)
    refine Ev_aload rfl rfl rfl ?_
    refine Ev_callV rfl rfl rfl rfl rfl (same_n 402) (m_laysTide _ hρ q2 (hF0.mf q1 rfl) hW hWt hWf hle hWb (by omega)) ?_
    rintro v13 ρ13 σ13 ⟨rfl, e13, ht⟩
    obtain rfl := e13.symm
    have hm : MF cAN fH σ σ13 := ht.mf.up
    refine Ev_aload rfl rfl rfl ?_
    refine Ev_const rfl ?_
    refine Ev_callV rfl rfl rfl rfl rfl (same_n 402) (m_hourGoes _ hρ (q2.mf ht.mf rfl rfl) (hF0.mf (q1.tr hm) rfl) hW hWt hWf hSk hP (fun j hj => by rw [ht.1 365 (by decide), q3 _ (by omega) (by omega)]; exact hPc j hj) hWb (by omega) ht.2.2.2 (tdM_le B (h + k)) (q5.mf hm rfl (fun j _ => by rw [ht.1 365 (by decide)]))) ?_
    rintro v18 ρ18 σ18 ⟨rfl, e18, r1, r2, r3, r4, r5, r6⟩
    obtain rfl := e18.symm
    refine Ev_iincE rfl rfl (nI_1 k) ?_
    refine Ev_goto rfl ?_
    refine ih (k + 1) _ (by omega) ⟨(q1.tr hm).tr r1, r2, fun j h1 h2 => ?_, fun h0 j h1 => ?_, r5, ?_⟩
    · rw [r3 j h1 h2, ht.1 365 (by decide), q3 j h1 h2]
    · rw [r4 h0 j h1, ht.1 365 (by decide), q4 h0 j h1]
    · rw [r6, ht.2.2.1 61 rfl (by decide), q6, nI_add]; rfl
theorem m_hoursGo (d : Nat) {h N : Nat} {P : Nat → Nat} {th : Bool} {K : Nat × (Nat → Nat)} {σ : St} (hρ : RF ρ) (hR : MRd σ B S W h) (hF : MFrm σ B) (hW : WfN B) (hWt : WfT B) (hWf : WfF B) (hS : WfS B S) (hP : WfP B P) (hPc : ∀ j, j < 2 * np B → σ.1 365 (49 + j) = nI (P j)) (hWb : ∀ b, W b ≤ 9) (hh : h + N ≤ 2000) (hK : MKp σ th K) :
    T l X (d + 8) 213 [.ref 326, .int (nI N)] 402 402 ρ σ (fun v ρ' σ' => v = none ∧ ρ' = ρ ∧ HhQ B P S W h N th K σ σ') := by
  have hm : MF cAN fH σ (sI σ 326 (upd (σ.1 326) 61 0)) := MF.put _ rfl
  refine T_of rfl ?_
  refine Ev_aload rfl rfl rfl ?_
  refine Ev_const rfl ?_
  refine Ev_putI rfl (by first | rfl | assumption) ⟨rfl, rfl⟩ rfl ?_
  refine Ev_const rfl ?_
  refine Ev_istore rfl ?_
  refine hh_loop hρ hW hWt hWf hS hP hWb hh σ hF hPc N 0 _ (by omega) ⟨hm, hR.mf (MF.put (C := cN0) (Fd := fH) _ rfl) rfl rfl, fun j _ _ => by rw [sR_1 _ _ (by decide)], fun _ j _ => by rw [sR_1 _ _ (by decide)], hK.mf hm rfl (fun j _ => by rw [sR_1 _ _ (by decide)]), by rw [sR_0, pk_us]; rfl⟩
/-! what is put aside, tried, taken back -/
theorem pa_loop {d : Nat} {σ : St} (hρ : RF ρ) (g0 : Nat → Int32) : ∀ (m k : Nat) (f : Nat → Int32), k + m = 81 → (∀ j, j < k → f j = σ.1 365 j) → Ev l X (d + 1) 214 7 [.ref 326, .int (nI k)] [] 402 402 402 ρ (sI (sI σ 326 g0) 366 f) (fun v ρ' σ' => v = none ∧ ρ' = ρ ∧ ∃ f, σ' = sI (sI σ 326 g0) 366 f ∧ ∀ j, j < 81 → f j = σ.1 365 j) := by
  intro m
  induction m with
  | zero =>
    intro k f hk hf
    have hk : k = 81 := by omega
    subst hk
    refine Ev_iload rfl rfl ?_
    refine Ev_const rfl ?_
    refine Ev_icmp_ge rfl (fun h10 => ?_) (fun h10 => absurd (by decide) h10)
    exact Ev_return rfl rfl rfl ⟨rfl, rfl, f, rfl, hf⟩
  | succ m ih =>
    intro k f hk hf
    refine Ev_iload rfl rfl ?_
    refine Ev_const rfl ?_
    refine Ev_icmp_ge rfl (fun h10 => absurd h10 (nI_ge (b := 81) (by omega) (by decide))) (fun h10 => ?_)
    refine Ev_aload rfl rfl rfl ?_
    refine Ev_getR rfl (by first | rfl | assumption) (hρ _ _ _ rfl) ?_
    refine Ev_iload rfl rfl ?_
    refine Ev_aload rfl rfl rfl ?_
    refine Ev_getR rfl (by first | rfl | assumption) (hρ _ _ _ rfl) ?_
    refine Ev_iload rfl rfl ?_
    refine Ev_iald rfl (by first | rfl | assumption) (vp_in_nI (n := k) (show k < 242 by omega) (by decide)) ?_
    refine Ev_norm (by rw [nI_clamp (by omega), sR_1 _ _ (by decide), sR_1 _ _ (by decide)] : _ = σ.1 365 k) ?_
    refine Ev_iast rfl (by first | rfl | assumption) (vp_in_nI (n := k) (show k < 81 by omega) (by decide)) ?_
    refine Ev_iincE rfl rfl (nI_1 k) ?_
    refine Ev_goto rfl ?_
    rw [nI_clamp (by omega), sI_sI, sR_0]
    refine ih (k + 1) _ (by omega) (fun j hj => ?_)
    by_cases hq : j = k
    · subst hq; rw [pk_us]
    · rw [pk_un hq]; exact hf j (by omega)
theorem m_putsAside (d : Nat) {σ : St} (hρ : RF ρ) : T l X (d + 1) 214 [.ref 326] 402 402 ρ σ (fun v ρ' σ' => v = none ∧ ρ' = ρ ∧ ∃ f, σ' = sI (sI σ 326 (upd (σ.1 326) 60 1)) 366 f ∧ ∀ j, j < 81 → f j = σ.1 365 j) := by
  refine T_of rfl ?_
  refine Ev_aload rfl rfl rfl ?_
  refine Ev_const rfl ?_
  refine Ev_putI rfl (by first | rfl | assumption) ⟨rfl, rfl⟩ rfl ?_
  refine Ev_const rfl ?_
  refine Ev_istore rfl ?_
  have := pa_loop (l := l) (X := X) (d := d) (σ := σ) hρ (upd (σ.1 326) 60 1) 81 0 (σ.1 366) (by decide) (fun j hj => absurd hj (Nat.not_lt_zero j))
  rw [← sR_1 σ (upd (σ.1 326) 60 1) (show 366 ≠ 326 by decide), sI_self] at this
  exact this
theorem ta_loop {d : Nat} {σ : St} (hρ : RF ρ) : ∀ (m k : Nat) (f : Nat → Int32), k + m = 81 → (∀ j, f j = if j < k then σ.1 366 j else σ.1 365 j) → Ev l X (d + 1) 215 2 [.ref 326, .int (nI k)] [] 402 402 402 ρ (sI σ 365 f) (fun v ρ' σ' => v = none ∧ ρ' = ρ ∧ ∃ f, σ' = sI σ 365 f ∧ ∀ j, f j = if j < 81 then σ.1 366 j else σ.1 365 j) := by
  intro m
  induction m with
  | zero =>
    intro k f hk hf
    have hk : k = 81 := by omega
    subst hk
    refine Ev_iload rfl rfl ?_
    refine Ev_const rfl ?_
    refine Ev_icmp_ge rfl (fun h5 => ?_) (fun h5 => absurd (by decide) h5)
    exact Ev_return rfl rfl rfl ⟨rfl, rfl, f, rfl, hf⟩
  | succ m ih =>
    intro k f hk hf
    refine Ev_iload rfl rfl ?_
    refine Ev_const rfl ?_
    refine Ev_icmp_ge rfl (fun h5 => absurd h5 (nI_ge (b := 81) (by omega) (by decide))) (fun h5 => ?_)
    refine Ev_aload rfl rfl rfl ?_
    refine Ev_getR rfl (by first | rfl | assumption) (hρ _ _ _ rfl) ?_
    refine Ev_iload rfl rfl ?_
    refine Ev_aload rfl rfl rfl ?_
    refine Ev_getR rfl (by first | rfl | assumption) (hρ _ _ _ rfl) ?_
    refine Ev_iload rfl rfl ?_
    refine Ev_iald rfl (by first | rfl | assumption) (vp_in_nI (n := k) (show k < 81 by omega) (by decide)) ?_
    refine Ev_norm (by rw [nI_clamp (by omega), sR_1 _ _ (by decide)] : _ = σ.1 366 k) ?_
    refine Ev_iast rfl (by first | rfl | assumption) (vp_in_nI (n := k) (show k < 242 by omega) (by decide)) ?_
    refine Ev_iincE rfl rfl (nI_1 k) ?_
    refine Ev_goto rfl ?_
    rw [nI_clamp (by omega), sI_sI, sR_0]
    refine ih (k + 1) _ (by omega) (fun j => ?_)
    by_cases hq : j = k
    · subst hq; rw [pk_us, if_pos (by omega)]
    · rw [pk_un hq, hf j]
      by_cases hq2 : j < k
      · rw [if_pos hq2, if_pos (by omega)]
      · rw [if_neg hq2, if_neg (by omega)]
theorem m_triesAnew (d : Nat) {σ : St} (hρ : RF ρ) : T l X (d + 1) 215 [.ref 326] 402 402 ρ σ (fun v ρ' σ' => v = none ∧ ρ' = ρ ∧ ∃ f, σ' = sI σ 365 f ∧ ∀ j, f j = if j < 81 then σ.1 366 j else σ.1 365 j) := by
  refine T_of rfl ?_
  refine Ev_const rfl ?_
  refine Ev_istore rfl ?_
  have := ta_loop (l := l) (X := X) (d := d) (σ := σ) hρ 81 0 (σ.1 365) (by decide) (fun j => by rw [if_neg (Nat.not_lt_zero j)])
  rw [sI_self] at this
  exact this
theorem m_takesBack (d : Nat) {σ : St} (hρ : RF ρ) : T l X (d + 2) 216 [.ref 326] 402 402 ρ σ (fun v ρ' σ' => v = none ∧ ρ' = ρ ∧ ∃ f, σ' = sI (sI σ 365 f) 326 (upd (upd (σ.1 326) 53 (-1)) 60 0) ∧ ∀ j, f j = if j < 81 then σ.1 366 j else σ.1 365 j) := by
  refine T_of rfl ?_
  refine Ev_aload rfl rfl rfl ?_
  refine Ev_callV rfl rfl rfl rfl rfl (same_n 402) (m_triesAnew _ hρ) ?_
  rintro v1 ρ1 σ1 ⟨rfl, e1, f, e2, hf⟩
  obtain rfl := e1.symm
  subst e2
  refine Ev_aload rfl rfl rfl ?_
  refine Ev_const rfl ?_
  refine Ev_putI rfl (by first | rfl | assumption) ⟨rfl, rfl⟩ rfl ?_
  refine Ev_aload rfl rfl rfl ?_
  refine Ev_const rfl ?_
  refine Ev_putI rfl (by first | rfl | assumption) ⟨rfl, rfl⟩ rfl ?_
  exact Ev_return rfl rfl rfl ⟨rfl, rfl, f, by rw [sI_sI, sR_0, sR_1 _ _ (by decide)], hf⟩
end S42
