/-! An image taken as the state: the reference; the call. -/
section S77
variable {l : Launch} {X : Cx} {ρ : Rf} {B : Bh}
def OnM (τ σ : St) (B : Bh) (S : Str) (P : Nat → Nat) (f : Nat → Nat) (h c k : Nat) : Prop := MF (fun q => Nat.beq q 365) cN0 τ σ ∧ (∀ b i, b < 6 → i < 8 → σ.1 365 (1 + 8 * b + i) = nI (onS B S f c b i)) ∧ (∀ j, j < 2 * np B → σ.1 365 (49 + j) = nI (onP B P f k j)) ∧ σ.1 365 0 = nI h
theorem moi_loop {d n b h : Nat} {τ : St} {S : Str} {P f : Nat → Nat} {Q : Po} (hρ : RF ρ) (hNu : MNum τ B) (hW : WfN B) (hn : n = imM B + 1) (hf : ∀ j, j < n → τ.1 327 j = nI (f j)) (hb : b < nb B)
    (hQ : ∀ σ, OnM τ σ B S P f h ((b + 1) * ni B) 0 → Ev l X (d + 2) 296 106 [.ref 326, .int (nI n), .int (nI (2 + (b + 1) * ni B)), .int (nI b), .int (nI (ni B))] [] 402 402 402 ρ σ Q) :
    ∀ (m i : Nat) (σ : St), i + m = ni B → OnM τ σ B S P f h (b * ni B + i) 0 → Ev l X (d + 2) 296 68 [.ref 326, .int (nI n), .int (nI (2 + b * ni B + i)), .int (nI b), .int (nI i)] [] 402 402 402 ρ σ Q := by
  have n8 := hW.1
  have n6 := hW.2.1
  have h82 := imM_le hW
  have hM := imM_pl B
  have hp : pl0 B = 2 + nb B * ni B := rfl
  intro m
  induction m with
  | zero =>
    intro i σ hi ho
    have hi : i = ni B := by omega
    subst hi
    refine Ev_iload rfl rfl ?_
    refine Ev_aload rfl rfl rfl ?_
    refine Ev_callV rfl rfl rfl rfl rfl (same_n 402) (m_ideaMany _ hρ (hNu.mf ho.1 rfl)) ?_
    rintro v71 ρ71 σ71 ⟨rfl, e71, g71⟩
    obtain rfl := e71.symm
    obtain rfl := g71.symm
    refine Ev_icmp_ge rfl (fun h74 => ?_) (fun h74 => absurd (nI_le (Nat.le_refl _) (by omega)) h74)
    have e : b * ni B + ni B = (b + 1) * ni B := (Nat.succ_mul _ _).symm
    have := hQ σ (by rw [← e]; exact ho)
    rw [← e, ← Nat.add_assoc] at this
    exact this
  | succ m ih =>
    intro i σ hi ho
    have hi2 : i < ni B := by omega
    have h1 : (b + 1) * ni B ≤ nb B * ni B := Nat.mul_le_mul_right _ hb
    rw [Nat.succ_mul] at h1
    refine Ev_iload rfl rfl ?_
    refine Ev_aload rfl rfl rfl ?_
    refine Ev_callV rfl rfl rfl rfl rfl (same_n 402) (m_ideaMany _ hρ (hNu.mf ho.1 rfl)) ?_
    rintro v71 ρ71 σ71 ⟨rfl, e71, g71⟩
    obtain rfl := e71.symm
    obtain rfl := g71.symm
    refine Ev_icmp_ge rfl (fun h74 => absurd h74 (nI_ge (by omega) (by omega))) (fun h74 => ?_)
    refine Ev_aload rfl rfl rfl ?_
    refine Ev_getR rfl (by first | rfl | assumption) (hρ _ _ _ rfl) ?_
    refine Ev_const rfl ?_
    refine Ev_const rfl ?_
    refine Ev_iload rfl rfl ?_
    refine Ev_imul rfl ?_
    refine Ev_norm (pk_mul 8 b) ?_
    refine Ev_iadd rfl ?_
    refine Ev_norm (nI_add 1 (8 * b)) ?_
    refine Ev_iload rfl rfl ?_
    refine Ev_iadd rfl ?_
    refine Ev_norm (nI_add (1 + 8 * b) i) ?_
    refine Ev_aload rfl rfl rfl ?_
    refine Ev_getR rfl (by first | rfl | assumption) (hρ _ _ _ rfl) ?_
    refine Ev_iload rfl rfl ?_
    refine Ev_iald rfl (by first | rfl | assumption) (vp_in_nI (n := 2 + b * ni B + i) (show 2 + b * ni B + i < 1600 by omega) (by decide)) ?_
    refine Ev_norm (by rw [nI_clamp (by omega), ho.1.1 327 (by decide) rfl]; exact hf _ (by omega) : _ = nI (f (2 + b * ni B + i))) ?_
    refine Ev_iast rfl (by first | rfl | assumption) (vp_in_nI (n := 1 + 8 * b + i) (show 1 + 8 * b + i < 242 by omega) (by decide)) ?_
    rw [nI_clamp (show 1 + 8 * b + i < 2 ^ 31 by omega)]
    refine Ev_iincE rfl rfl (nI_1 _) ?_
    refine Ev_iincE rfl rfl (nI_1 i) ?_
    refine Ev_goto rfl ?_
    refine ih (i + 1) _ (by omega) ⟨ho.1.tr (MF.cell _ (by decide) rfl), fun b' i' hb' hi' => ?_, fun j hj => by rw [sR_0, pk_un (by omega)]; exact ho.2.2.1 j hj, by rw [sR_0, pk_un (by omega)]; exact ho.2.2.2⟩
    rw [show b * ni B + (i + 1) = b * ni B + i + 1 from rfl, onS_st hb hi2, sR_0]
    by_cases hq : b' = b ∧ i' = i
    · rw [if_pos hq, hq.1, hq.2, pk_us]
    · rw [if_neg hq, pk_un (by omega)]; exact ho.2.1 b' i' hb' hi'
theorem mob_loop {d n h : Nat} {τ : St} {S : Str} {P f : Nat → Nat} {Q : Po} (hρ : RF ρ) (hNu : MNum τ B) (hW : WfN B) (hn : n = imM B + 1) (hf : ∀ j, j < n → τ.1 327 j = nI (f j))
    (hQ : ∀ σ w, OnM τ σ B S P f h (nb B * ni B) 0 → Ev l X (d + 2) 296 112 [.ref 326, .int (nI n), .int (nI (pl0 B)), .int (nI (nb B)), w] [] 402 402 402 ρ σ Q) :
    ∀ (m b : Nat) (σ : St) (w : Value), b + m = nb B → OnM τ σ B S P f h (b * ni B) 0 → Ev l X (d + 2) 296 57 [.ref 326, .int (nI n), .int (nI (2 + b * ni B)), .int (nI b), w] [] 402 402 402 ρ σ Q := by
  have n6 := hW.2.1
  intro m
  induction m with
  | zero =>
    intro b σ w hb ho
    have hb : b = nb B := by omega
    subst hb
    refine Ev_iload rfl rfl ?_
    refine Ev_aload rfl rfl rfl ?_
    refine Ev_callV rfl rfl rfl rfl rfl (same_n 402) (m_batherMany _ hρ (hNu.mf ho.1 rfl)) ?_
    rintro v59 ρ59 σ59 ⟨rfl, e59, g59⟩
    obtain rfl := e59.symm
    obtain rfl := g59.symm
    refine Ev_icmp_ge rfl (fun h62 => ?_) (fun h62 => absurd (nI_le (Nat.le_refl _) (by omega)) h62)
    exact hQ σ w ho
  | succ m ih =>
    intro b σ w hb ho
    refine Ev_iload rfl rfl ?_
    refine Ev_aload rfl rfl rfl ?_
    refine Ev_callV rfl rfl rfl rfl rfl (same_n 402) (m_batherMany _ hρ (hNu.mf ho.1 rfl)) ?_
    rintro v59 ρ59 σ59 ⟨rfl, e59, g59⟩
    obtain rfl := e59.symm
    obtain rfl := g59.symm
    refine Ev_icmp_ge rfl (fun h62 => absurd h62 (nI_ge (by omega) (by omega))) (fun h62 => ?_)
    refine Ev_const rfl ?_
    refine Ev_istore rfl ?_
    refine moi_loop hρ hNu hW hn hf (by omega) (fun σ2 ho2 => ?_) (ni B) 0 σ (by omega) ho
    refine Ev_iincE rfl rfl (nI_1 b) ?_
    refine Ev_goto rfl ?_
    exact ih (b + 1) σ2 _ (by omega) ho2
theorem mok_loop {d n h : Nat} {τ : St} {S : Str} {P f : Nat → Nat} {Q : Po} (hρ : RF ρ) (hNu : MNum τ B) (hW : WfN B) (hn : n = imM B + 1) (hf : ∀ j, j < n → τ.1 327 j = nI (f j))
    (hQ : ∀ σ w z, OnM τ σ B S P f h (nb B * ni B) (2 * np B) → Ev l X (d + 2) 296 147 [.ref 326, .int (nI n), .int (nI (pl0 B)), .int w, z] [] 402 402 402 ρ σ Q) :
    ∀ (m k : Nat) (σ : St) (z : Value), k + m = 2 * np B → OnM τ σ B S P f h (nb B * ni B) k → Ev l X (d + 2) 296 114 [.ref 326, .int (nI n), .int (nI (pl0 B)), .int (nI k), z] [] 402 402 402 ρ σ Q := by
  have h82 := imM_le hW
  have hM := imM_pl B
  have n16 := hW.2.2.2.1
  intro m
  induction m with
  | zero =>
    intro k σ z hk ho
    have hk : k = 2 * np B := by omega
    subst hk
    refine Ev_iload rfl rfl ?_
    refine Ev_const rfl ?_
    refine Ev_aload rfl rfl rfl ?_
    refine Ev_callV rfl rfl rfl rfl rfl (same_n 402) (m_planMany _ hρ (hNu.mf ho.1 rfl)) ?_
    rintro v117 ρ117 σ117 ⟨rfl, e117, g117⟩
    obtain rfl := e117.symm
    obtain rfl := g117.symm
    refine Ev_imul rfl ?_
    refine Ev_norm (pk_mul 2 (np B) : _ = nI (2 * np B)) ?_
    refine Ev_icmp_ge rfl (fun h121 => ?_) (fun h121 => absurd (nI_le (Nat.le_refl _) (by omega)) h121)
    exact hQ σ _ z ho
  | succ m ih =>
    intro k σ z hk ho
    refine Ev_iload rfl rfl ?_
    refine Ev_const rfl ?_
    refine Ev_aload rfl rfl rfl ?_
    refine Ev_callV rfl rfl rfl rfl rfl (same_n 402) (m_planMany _ hρ (hNu.mf ho.1 rfl)) ?_
    rintro v117 ρ117 σ117 ⟨rfl, e117, g117⟩
    obtain rfl := e117.symm
    obtain rfl := g117.symm
    refine Ev_imul rfl ?_
    refine Ev_norm (pk_mul 2 (np B) : _ = nI (2 * np B)) ?_
    refine Ev_icmp_ge rfl (fun h121 => absurd h121 (nI_ge (by omega) (by omega))) (fun h121 => ?_)
    refine Ev_aload rfl rfl rfl ?_
    refine Ev_getR rfl (by first | rfl | assumption) (hρ _ _ _ rfl) ?_
    refine Ev_const rfl ?_
    refine Ev_iload rfl rfl ?_
    refine Ev_iadd rfl ?_
    refine Ev_norm (nI_add 49 k) ?_
    refine Ev_aload rfl rfl rfl ?_
    refine Ev_getR rfl (by first | rfl | assumption) (hρ _ _ _ rfl) ?_
    refine Ev_iload rfl rfl ?_
    refine Ev_iload rfl rfl ?_
    refine Ev_iadd rfl ?_
    refine Ev_norm (nI_add (pl0 B) k) ?_
    refine Ev_iald rfl (by first | rfl | assumption) (vp_in_nI (n := pl0 B + k) (show pl0 B + k < 1600 by omega) (by decide)) ?_
    refine Ev_norm (by rw [nI_clamp (by omega), ho.1.1 327 (by decide) rfl]; exact hf _ (by omega) : _ = nI (f (pl0 B + k))) ?_
    refine Ev_iast rfl (by first | rfl | assumption) (vp_in_nI (n := 49 + k) (show 49 + k < 242 by omega) (by decide)) ?_
    rw [nI_clamp (show 49 + k < 2 ^ 31 by omega)]
    refine Ev_iincE rfl rfl (nI_1 k) ?_
    refine Ev_goto rfl ?_
    refine ih (k + 1) _ _ (by omega) ⟨ho.1.tr (MF.cell _ (by decide) rfl), fun b i hb hi => by rw [sR_0, pk_un (by omega)]; exact ho.2.1 b i hb hi, fun j hj => ?_, by rw [sR_0, pk_un (by omega)]; exact ho.2.2.2⟩
    rw [sR_0]
    have := ho.2.2.1 j hj
    unfold onP at this ⊢
    by_cases hjk : j = k
    · rw [hjk, pk_us, if_pos (by omega)]
    · rw [pk_un (by omega)]
      by_cases hlt : j < k
      · rw [if_pos hlt] at this; rw [if_pos (by omega)]; exact this
      · rw [if_neg hlt] at this; rw [if_neg (by omega)]; exact this
theorem onS_0 {S : Str} {f : Nat → Nat} : onS B S f (0 * ni B) = S := by
  funext b i
  unfold onS
  rw [if_neg (by rw [Nat.zero_mul]; omega)]
theorem onP_0 {P f : Nat → Nat} : onP B P f (2 * 0) = P := by
  funext j
  unfold onP
  rw [if_neg (by omega)]
theorem op_on : OpI l X InvA 144 296 [] := by
  refine op_of (fun A q ρ σ hA hC hρ => ?_)
  have hW := hA.1.1
  have hl := hA.2.2.2.2.2.1.1
  have h256 := hA.2.2.2.2.2.1.2
  have hT := hC.2.2.2.2.2.2.2.1
  have h82 := imM_le hW
  obtain ⟨n, hn⟩ : ∃ n, n = (aT A).1 := ⟨_, rfl⟩
  have hn16 : n ≤ 1600 := by omega
  have hC0 := hC.tape (Nat.zero_le _)
  have hf0 : ∀ j, j < n → (sI σ 0 (upd (σ.1 0) 1 (nI 0))).1 1 j = sb ((aT A).2 j) := fun j hj => by rw [sR_1 _ _ (by decide)]; exact hT.2 j (by omega)
  have hM2 : 2 ≤ imM (aB A) := by unfold imM; omega
  have b0 := h256 0
  have b1 := h256 1
  have hrows : (sI σ 0 (upd (σ.1 0) 1 (nI 0))).1 32 2 = nI (np (aB A)) := hC0.2.2.2.1.2.2.1.1
  by_cases h : onB (aB A) n (aT A).2 = true
  · have ho := h
    simp only [onB, Bool.and_eq_true, decide_eq_true_eq] at ho
    obtain ⟨o1, o2, -⟩ := ho
    refine ⟨1, sP (sN (sT A (0, (aT A).2)) (nO (aB A) (aN A) (aT A).2)) (0, (aP A).2), hA.on h, ?_, fun ρ σ hM => ?_⟩
    · refine T_of rfl ?_
      refine Ev_aload rfl rfl rfl ?_
      refine Ev_callV rfl rfl rfl rfl rfl (same_n 402) (t_takeTape _) ?_
      rintro v1 ρ1 σ1 ⟨rfl, e1, g1⟩
      obtain rfl := e1.symm
      obtain rfl := g1.symm
      refine Ev_norm (by rw [hT.1, hn] : _ = nI n) ?_
      refine Ev_istore rfl ?_
      refine Ev_aload rfl rfl rfl ?_
      refine Ev_iload rfl rfl ?_
      refine Ev_callV rfl rfl rfl rfl rfl (same_n 402) (t_isImage _ (f := (aT A).2) hC0.1.1 hC0.2.1 hW hrows hn16 hf0 h256) ?_
      rintro v7 ρ7 σ7 ⟨rfl, e7, g7⟩
      obtain rfl := e7.symm
      obtain rfl := g7.symm
      refine Ev_norm (show _ = bI true by rw [show onB (aB (sT A (0, (aT A).2))) n (aT A).2 = true from h]) ?_
      refine Ev_if_ne rfl (fun h10 => ?_) (fun h10 => absurd (by decide) h10)
      refine Ev_aload rfl rfl rfl ?_
      refine Ev_getR rfl (by first | rfl | assumption) (hρ _ _ _ rfl) ?_
      refine Ev_const rfl ?_
      refine Ev_aload rfl rfl rfl ?_
      refine Ev_const rfl ?_
      refine Ev_callV rfl rfl rfl rfl rfl (same_n 402) (t_tb _ hρ (k := 0) (by decide) (hf0 0 (by omega)) b0) ?_
      rintro v30 ρ30 σ30 ⟨rfl, e30, g30⟩
      obtain rfl := e30.symm
      obtain rfl := g30.symm
      refine Ev_imul rfl ?_
      refine Ev_norm (pk_mul 256 ((aT A).2 0) : _ = nI (256 * (aT A).2 0)) ?_
      refine Ev_aload rfl rfl rfl ?_
      refine Ev_const rfl ?_
      refine Ev_callV rfl rfl rfl rfl rfl (same_n 402) (t_tb _ hρ (k := 1) (by decide) (hf0 1 (by omega)) b1) ?_
      rintro v36 ρ36 σ36 ⟨rfl, e36, g36⟩
      obtain rfl := e36.symm
      obtain rfl := g36.symm
      refine Ev_iadd rfl ?_
      refine Ev_norm (nI_add _ _) ?_
      refine Ev_putI rfl (by first | rfl | assumption) ⟨rfl, rfl⟩ rfl ?_
      refine Ev_const rfl ?_
      refine Ev_istore rfl ?_
      refine Ev_const rfl ?_
      refine Ev_istore rfl ?_
      have hcf : CF cNP (sI σ 0 (upd (σ.1 0) 1 (nI 0))) (sI (sI σ 0 (upd (σ.1 0) 1 (nI 0))) 32 (upd ((sI σ 0 (upd (σ.1 0) 1 (nI 0))).1 32) 0 (nI (256 * (aT A).2 0 + (aT A).2 1)))) := fr_now (by decide) (by decide)
      have hRt : CRd ρ (sI (sI σ 0 (upd (σ.1 0) 1 (nI 0))) 32 (upd ((sI σ 0 (upd (σ.1 0) 1 (nI 0))).1 32) 0 (nI (256 * (aT A).2 0 + (aT A).2 1)))) q (aB A) := CRd.eq hC0.2.1 (fun k hk => sR_1 _ _ (by omega)) ρ hρ rfl
      have hoi : OnI (sI (sI σ 0 (upd (σ.1 0) 1 (nI 0))) 32 (upd ((sI σ 0 (upd (σ.1 0) 1 (nI 0))).1 32) 0 (nI (256 * (aT A).2 0 + (aT A).2 1)))) (sI (sI σ 0 (upd (σ.1 0) 1 (nI 0))) 32 (upd ((sI σ 0 (upd (σ.1 0) 1 (nI 0))).1 32) 0 (nI (256 * (aT A).2 0 + (aT A).2 1)))) (aB A) (aN A).2.1 (aN A).2.2.1 (aT A).2 (0 * ni (aB A)) 0 := ⟨CF.rf _ _, fun b hb i hi => by rw [sR_1 _ _ (by omega), sR_1 _ _ (by omega), onS_0]; exact rf_str hC hb hi, fun j hj => by rw [onP_0]; rw [sR_1 _ _ (by decide), sR_1 _ _ (by decide), sR_1 _ _ (by decide), sR_1 _ _ (by decide)]; exact hC.2.2.2.1.2.2.1.2 j hj⟩
      refine Ev_st rfl rfl ?_
      have hgo := ob_loop (l := l) (X := X) (d := 98) (B := aB A) (n := n) (S := (aN A).2.1) (P := (aN A).2.2.1) (f := (aT A).2) (Q := fun v ρ' σ' => v = some (.int 1) ∧ RF ρ' ∧ upM σ σ' ∧ ∃ q', RC q' ρ' σ' (sP (sN (sT A (0, (aT A).2)) (nO (aB A) (aN A) (aT A).2)) (0, (aP A).2))) hC.1.1 hRt hW o1 (fun j hj => by rw [sR_1 _ _ (by decide)]; exact hf0 j hj) h256 (fun σ2 w ho2 => ?_) (nb (aB A)) 0 _ (.float 0) (by omega) hoi
      · rw [Nat.zero_mul] at hgo; exact hgo
      refine Ev_const rfl ?_
      refine Ev_istore rfl ?_
      refine ok_loop (d := 98) (B := aB A) (n := n) (S := (aN A).2.1) (P := (aN A).2.2.1) (f := (aT A).2) hρ hW (τ := sI (sI σ 0 (upd (σ.1 0) 1 (nI 0))) 32 (upd ((sI σ 0 (upd (σ.1 0) 1 (nI 0))).1 32) 0 (nI (256 * (aT A).2 0 + (aT A).2 1)))) (by rw [sR_0, pk_un (by decide)]; exact hrows) o1 (fun j hj => by rw [sR_1 _ _ (by decide)]; exact hf0 j hj) h256 (fun σ3 a w3 ho3 => ?_) (np (aB A)) 0 σ2 w (by omega) ho2
      refine Ev_aload rfl rfl rfl ?_
      refine Ev_getR rfl (by first | rfl | assumption) (hρ _ _ _ rfl) ?_
      refine Ev_const rfl ?_
      refine Ev_putI rfl (by first | rfl | assumption) ⟨rfl, rfl⟩ rfl ?_
      refine Ev_aload rfl rfl rfl ?_
      refine Ev_getR rfl (by first | rfl | assumption) (hρ _ _ _ rfl) ?_
      refine Ev_callV rfl rfl rfl rfl rfl (same_n 402) (t_clear _) ?_
      rintro v169 ρ169 σ169 ⟨rfl, e169, g169⟩
      obtain rfl := e169.symm
      obtain rfl := g169.symm
      refine Ev_const rfl ?_
      exact Ev_ireturn rfl rfl rfl rfl (by
      have c1 : CF cNP σ3 (sI σ3 32 (upd (σ3.1 32) 6 0)) := fr_now (by decide) (by decide)
      have c2 : CF cNP (sI σ3 32 (upd (σ3.1 32) 6 0)) (sI (sI σ3 32 (upd (σ3.1 32) 6 0)) 43 (upd (upd ((sI σ3 32 (upd (σ3.1 32) 6 0)).1 43) 1 0) 2 0)) := CF.cell _ _ (fun j => cNP_in (by decide) (by decide))
      have hall := ((hcf.tr (ho3.1.wk (fun k j hk => by
        apply cO_f
        by_cases hq : 32 ≤ k ∧ k ≤ 264
        · rw [cNP_in hq.1 hq.2] at hk; cases hk
        · omega))).tr c1).tr c2
      have hh3 : σ3.1 32 0 = nI (256 * (aT A).2 0 + (aT A).2 1) := by rw [ho3.1.1 32 _ rfl, sR_0, pk_us]
      have hr3 : σ3.1 32 2 = nI (np (aB A)) := by rw [ho3.1.1 32 _ rfl, sR_0, pk_un (by decide)]; exact hrows
      refine ⟨rfl, hρ, (upM.put _ _ (by decide)).tr (cNP_up hall), q, hC0.nowP hall (N := nO (aB A) (aN A) (aT A).2) (P := (0, (aP A).2)) ⟨?_, fun b hb i hi => ?_, ⟨?_, fun k hk => ?_⟩, ?_, Nat.zero_le _, fun j hj => absurd hj (Nat.not_lt_zero j)⟩ ⟨?_, 0, by decide, ?_, fun k hk => absurd hk (Nat.not_lt_zero k)⟩⟩
      · rw [sR_1 _ _ (by decide), sR_0, pk_un (by decide)]; exact hh3
      · rw [sR_1 _ _ (by omega), sR_1 _ _ (by omega)]; exact ho3.2.1 b hb i hi
      · rw [sR_1 _ _ (by decide), sR_0, pk_un (by decide)]; exact hr3
      · rw [sR_1 _ _ (by decide), sR_1 _ _ (by decide), sR_1 _ _ (by decide), sR_1 _ _ (by decide)]; exact ho3.2.2 k hk
      · rw [sR_1 _ _ (by decide), sR_0, pk_us]; rfl
      · rw [sR_0, pk_us]; rfl
      · rw [sR_0, pk_un (by decide), pk_us]; rfl)
    · have hρ := hM.1
      have hTm := hM.2.2.2.2.2.2.2.1
      have hM0 := hM.tape (Nat.zero_le _)
      have hf1 : ∀ j, j < n → (sI σ 326 (upd (σ.1 326) 1 (nI 0))).1 327 j = nI ((aT A).2 j) := fun j hj => by rw [sR_1 _ _ (by decide)]; exact hTm.2 j (by omega)
      refine T_of rfl ?_
      refine Ev_aload rfl rfl rfl ?_
      refine Ev_getI rfl (by first | rfl | assumption) ?_
      refine Ev_norm (by rw [hTm.1, hn] : _ = nI n) ?_
      refine Ev_istore rfl ?_
      refine Ev_aload rfl rfl rfl ?_
      refine Ev_const rfl ?_
      refine Ev_putI rfl (by first | rfl | assumption) ⟨rfl, rfl⟩ rfl ?_
      refine Ev_aload rfl rfl rfl ?_
      refine Ev_iload rfl rfl ?_
      refine Ev_callV rfl rfl rfl rfl rfl (same_n 402) (m_isImage _ (f := (aT A).2) hρ hM0.2.1.1 hW hn16 hf1 h256) ?_
      rintro v12 ρ12 σ12 ⟨rfl, e12, g12⟩
      obtain rfl := e12.symm
      obtain rfl := g12.symm
      refine Ev_norm (show _ = bI true by rw [show onB (aB (sT A (0, (aT A).2))) n (aT A).2 = true from h]) ?_
      refine Ev_if_ne rfl (fun h15 => ?_) (fun h15 => absurd (by decide) h15)
      refine Ev_aload rfl rfl rfl ?_
      refine Ev_getR rfl (by first | rfl | assumption) (hρ _ _ _ rfl) ?_
      refine Ev_const rfl ?_
      refine Ev_const rfl ?_
      refine Ev_aload rfl rfl rfl ?_
      refine Ev_getR rfl (by first | rfl | assumption) (hρ _ _ _ rfl) ?_
      refine Ev_const rfl ?_
      refine Ev_iald rfl (by first | rfl | assumption) (vp_in_nI (n := 0) (by decide) (by decide)) ?_
      refine Ev_norm (hf1 0 (by omega)) ?_
      refine Ev_imul rfl ?_
      refine Ev_norm (pk_mul 256 ((aT A).2 0) : _ = nI (256 * (aT A).2 0)) ?_
      refine Ev_aload rfl rfl rfl ?_
      refine Ev_getR rfl (by first | rfl | assumption) (hρ _ _ _ rfl) ?_
      refine Ev_const rfl ?_
      refine Ev_iald rfl (by first | rfl | assumption) (vp_in_nI (n := 1) (by decide) (by decide)) ?_
      refine Ev_norm (hf1 1 (by omega)) ?_
      refine Ev_iadd rfl ?_
      refine Ev_norm (nI_add _ _) ?_
      refine Ev_iast rfl (by first | rfl | assumption) (vp_in_nI (n := 0) (by decide) (by decide)) ?_
      refine Ev_const rfl ?_
      refine Ev_istore rfl ?_
      refine Ev_const rfl ?_
      refine Ev_istore rfl ?_
      have ht : MF (fun q => Nat.beq q 365) cN0 (sI σ 326 (upd (σ.1 326) 1 (nI 0))) (sI (sI σ 326 (upd (σ.1 326) 1 (nI 0))) 365 (upd ((sI σ 326 (upd (σ.1 326) 1 (nI 0))).1 365) 0 (nI (256 * (aT A).2 0 + (aT A).2 1)))) := MF.cell _ (by decide) rfl
      have hom : OnM (sI (sI σ 326 (upd (σ.1 326) 1 (nI 0))) 365 (upd ((sI σ 326 (upd (σ.1 326) 1 (nI 0))).1 365) 0 (nI (256 * (aT A).2 0 + (aT A).2 1)))) (sI (sI σ 326 (upd (σ.1 326) 1 (nI 0))) 365 (upd ((sI σ 326 (upd (σ.1 326) 1 (nI 0))).1 365) 0 (nI (256 * (aT A).2 0 + (aT A).2 1)))) (aB A) (aN A).2.1 (aN A).2.2.1 (aT A).2 (256 * (aT A).2 0 + (aT A).2 1) (0 * ni (aB A)) 0 := ⟨MF.rf _ _ _, fun b i hb hi => by rw [sR_0, pk_un (by omega), onS_0]; exact hM0.2.2.2.1.2.1 b i hb hi, fun j hj => by rw [sR_0, pk_un (by omega), show (0 : Nat) = 2 * 0 from rfl, onP_0]; exact hM0.pl j hj, by rw [sR_0, pk_us]⟩
      have hgo := mob_loop (l := l) (X := X) (d := 98) (B := aB A) (n := n) (h := 256 * (aT A).2 0 + (aT A).2 1) (S := (aN A).2.1) (P := (aN A).2.2.1) (f := (aT A).2) (Q := fun v ρ' σ' => v = some (.int 1) ∧ ρ' = ρ ∧ upC σ σ' ∧ RM ρ' σ' (sP (sN (sT A (0, (aT A).2)) (nO (aB A) (aN A) (aT A).2)) (0, (aP A).2))) hρ (MNum.mf hM0.2.1.1 ht rfl) hW o1 (fun j hj => by rw [sR_1 _ _ (by decide)]; exact hf1 j hj) (fun σ2 w ho2 => ?_) (nb (aB A)) 0 _ (.float 0) (by omega) hom
      · rw [Nat.zero_mul] at hgo; exact hgo
      refine Ev_const rfl ?_
      refine Ev_istore rfl ?_
      refine mok_loop (d := 98) (B := aB A) (n := n) (h := 256 * (aT A).2 0 + (aT A).2 1) (S := (aN A).2.1) (P := (aN A).2.2.1) (f := (aT A).2) hρ (MNum.mf hM0.2.1.1 ht rfl) hW o1 (fun j hj => by rw [sR_1 _ _ (by decide)]; exact hf1 j hj) (fun σ3 w3 z3 ho3 => ?_) (2 * np (aB A)) 0 σ2 w (by omega) ho2
      refine Ev_aload rfl rfl rfl ?_
      refine Ev_getR rfl (by first | rfl | assumption) (hρ _ _ _ rfl) ?_
      refine Ev_const rfl ?_
      refine Ev_const rfl ?_
      refine Ev_iast rfl (by first | rfl | assumption) (vp_in_nI (n := 81) (by decide) (by decide)) ?_
      refine Ev_aload rfl rfl rfl ?_
      refine Ev_const rfl ?_
      refine Ev_putI rfl (by first | rfl | assumption) ⟨rfl, rfl⟩ rfl ?_
      refine Ev_const rfl ?_
      exact Ev_ireturn rfl rfl rfl rfl (by
      have hall : MF scK scG (sI σ 326 (upd (σ.1 326) 1 (nI 0))) (sI (sI σ3 365 (upd (σ3.1 365) 81 0)) 326 (upd ((sI σ3 365 (upd (σ3.1 365) 81 0)).1 326) 73 0)) := (((ht.tr ho3.1).wk (fun q hq => by unfold scK at hq; simp only [Bool.or_eq_false_iff] at hq; exact hq.1.2) (fun _ _ => rfl)).tr (mf_now _)).tr (MF.put _ rfl)
      refine ⟨rfl, rfl, (upC.put _ _ (by decide)).tr (scK_up hall), hM0.nowP hall (N := nO (aB A) (aN A) (aT A).2) (P := (0, (aP A).2)) ⟨?_, fun b i hb hi => ?_, fun j hj => ?_, ?_, fun j hj => absurd hj (Nat.not_lt_zero j)⟩ ?_⟩
      · rw [sR_1 _ _ (by decide), sR_0, pk_un (by decide)]; exact ho3.2.2.2
      · rw [sR_1 _ _ (by decide), sR_0, pk_un (by omega)]; exact ho3.2.1 b i hb hi
      · have n16 := hW.2.2.2.1
        have hj2 : j < 2 * np (aB A) := hj
        rw [sR_1 _ _ (by decide), sR_0, pk_un (by omega)]; exact ho3.2.2.1 j hj2
      · rw [sR_1 _ _ (by decide), sR_0, pk_us]; rfl
      · obtain ⟨-, w, hw, hw2, -⟩ := MPas.st hM0
        refine ⟨by rw [sR_0, pk_us]; rfl, w, hw, ?_, fun k hk => absurd hk (Nat.not_lt_zero k)⟩
        rw [sR_0, pk_un (by decide), sR_1 _ _ (by decide), ho3.1.2.2 _ rfl, sR_1 _ _ (by decide)]; exact hw2)
  · have hno : onB (aB A) n (aT A).2 = false := Bool.eq_false_iff.mpr h
    refine ⟨0, sU (sT A (0, (aT A).2)) 5, hA.tape0.refu 5, ?_, fun ρ σ hM => ?_⟩
    · refine T_of rfl ?_
      refine Ev_aload rfl rfl rfl ?_
      refine Ev_callV rfl rfl rfl rfl rfl (same_n 402) (t_takeTape _) ?_
      rintro v1 ρ1 σ1 ⟨rfl, e1, g1⟩
      obtain rfl := e1.symm
      obtain rfl := g1.symm
      refine Ev_norm (by rw [hT.1, hn] : _ = nI n) ?_
      refine Ev_istore rfl ?_
      refine Ev_aload rfl rfl rfl ?_
      refine Ev_iload rfl rfl ?_
      refine Ev_callV rfl rfl rfl rfl rfl (same_n 402) (t_isImage _ (f := (aT A).2) hC0.1.1 hC0.2.1 hW hrows hn16 hf0 h256) ?_
      rintro v7 ρ7 σ7 ⟨rfl, e7, g7⟩
      obtain rfl := e7.symm
      obtain rfl := g7.symm
      refine Ev_norm (show _ = bI false by rw [show onB (aB (sT A (0, (aT A).2))) n (aT A).2 = false from hno]) ?_
      refine Ev_if_ne rfl (fun h10 => absurd rfl h10) (fun h10 => ?_)
      refine Ev_aload rfl rfl rfl ?_
      refine Ev_const rfl ?_
      refine Ev_callV rfl rfl rfl rfl rfl (same_n 402) (t_refuse _ hρ (w := 5) (by decide)) ?_
      rintro v15 ρ15 σ15 ⟨rfl, e15, g15⟩
      obtain rfl := e15.symm
      obtain rfl := g15.symm
      refine Ev_pop rfl (fun _ q => nomatch q) ?_
      refine Ev_const rfl ?_
      exact Ev_ireturn rfl rfl rfl rfl ⟨rfl, hρ, (upM.put _ _ (by decide)).tr (upM.bump _), q, hC0.refu (by decide)⟩
    · have hρ := hM.1
      have hTm := hM.2.2.2.2.2.2.2.1
      have hM0 := hM.tape (Nat.zero_le _)
      have hf1 : ∀ j, j < n → (sI σ 326 (upd (σ.1 326) 1 (nI 0))).1 327 j = nI ((aT A).2 j) := fun j hj => by rw [sR_1 _ _ (by decide)]; exact hTm.2 j (by omega)
      refine T_of rfl ?_
      refine Ev_aload rfl rfl rfl ?_
      refine Ev_getI rfl (by first | rfl | assumption) ?_
      refine Ev_norm (by rw [hTm.1, hn] : _ = nI n) ?_
      refine Ev_istore rfl ?_
      refine Ev_aload rfl rfl rfl ?_
      refine Ev_const rfl ?_
      refine Ev_putI rfl (by first | rfl | assumption) ⟨rfl, rfl⟩ rfl ?_
      refine Ev_aload rfl rfl rfl ?_
      refine Ev_iload rfl rfl ?_
      refine Ev_callV rfl rfl rfl rfl rfl (same_n 402) (m_isImage _ (f := (aT A).2) hρ hM0.2.1.1 hW hn16 hf1 h256) ?_
      rintro v12 ρ12 σ12 ⟨rfl, e12, g12⟩
      obtain rfl := e12.symm
      obtain rfl := g12.symm
      refine Ev_norm (show _ = bI false by rw [show onB (aB (sT A (0, (aT A).2))) n (aT A).2 = false from hno]) ?_
      refine Ev_if_ne rfl (fun h15 => absurd rfl h15) (fun h15 => ?_)
      refine Ev_aload rfl rfl rfl ?_
      refine Ev_getR rfl (by first | rfl | assumption) (hρ _ _ _ rfl) ?_
      refine Ev_const rfl ?_
      refine Ev_dup2 rfl (fun _ q => nomatch q) (fun _ q => nomatch q) ?_
      refine Ev_iald rfl (by first | rfl | assumption) (vp_in_nI (n := 5) (by decide) (by decide)) ?_
      refine Ev_const rfl ?_
      refine Ev_iadd rfl ?_
      refine Ev_iast rfl (by first | rfl | assumption) (vp_in_nI (n := 5) (by decide) (by decide)) ?_
      refine Ev_const rfl ?_
      exact Ev_ireturn rfl rfl rfl rfl ⟨rfl, rfl, (upC.put _ _ (by decide)).tr (upC.put _ _ (by decide)), hM0.refu (w := 5) (by decide)⟩
end S77
