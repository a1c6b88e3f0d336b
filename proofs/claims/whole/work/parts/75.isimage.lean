/-! Whether the tape is an image. -/
def onS (B : Bh) (S : Str) (f : Nat → Nat) (c : Nat) : Str := fun b i => if b < nb B ∧ i < ni B ∧ b * ni B + i < c then f (2 + b * ni B + i) else S b i
def pl0 (B : Bh) : Nat := 2 + nb B * ni B
def okP (B : Bh) (f : Nat → Nat) (k : Nat) : Bool := decide (f (pl0 B + 2 * k) < nb B) && decide (f (pl0 B + 2 * k + 1) < ni B)
def onB (B : Bh) (n : Nat) (f : Nat → Nat) : Bool := decide (n = imM B + 1) && (decide (256 * f 0 + f 1 ≤ 999) && (allK (nb B * ni B) (fun k => decide (f (2 + k) ≤ 99)) && (allK (np B) (okP B f) && decide (f (imM B) = ck f (imM B)))))
theorem imM_pl (B : Bh) : imM B = pl0 B + 2 * np B := rfl
section S75
variable {l : Launch} {X : Cx} {ρ : Rf} {B : Bh} {q : Nat}
theorem ii_1 {d n : Nat} {σ : St} {f : Nat → Nat} {Q : Po} (hρ : RF ρ) (hW : WfN B) (hn : n = imM B + 1) (hf : ∀ j, j < n → σ.1 1 j = sb (f j)) (h256 : ∀ j, f j < 256)
    (hQ : allK (nb B * ni B) (fun k => decide (f (2 + k) ≤ 99)) = true → Ev l X (d + 2) 145 88 [.ref 0, .int (nI n), .int (nI (pl0 B)), .int (nI (imM B)), .int (nI (pl0 B))] [] 402 402 402 ρ σ Q) (hQ2 : allK (nb B * ni B) (fun k => decide (f (2 + k) ≤ 99)) = false → Q (some (.int 0)) ρ σ) :
    ∀ (m k : Nat), k + m = nb B * ni B → (∀ j, j < k → decide (f (2 + j) ≤ 99) = true) → Ev l X (d + 2) 145 63 [.ref 0, .int (nI n), .int (nI (pl0 B)), .int (nI (imM B)), .int (nI (2 + k))] [] 402 402 402 ρ σ Q := by
  have h82 := imM_le hW
  have hM := imM_pl B
  have hp : pl0 B = 2 + nb B * ni B := rfl
  intro m
  induction m with
  | zero =>
    intro k hk ha
    have hk : k = nb B * ni B := by omega
    subst hk
    refine Ev_iload rfl rfl ?_
    refine Ev_iload rfl rfl ?_
    refine Ev_icmp_ge rfl (fun h66 => ?_) (fun h66 => absurd (nI_le (Nat.le_refl _) (by omega)) h66)
    exact hQ (allK_of ha)
  | succ m ih =>
    intro k hk ha
    have hb := h256 (2 + k)
    refine Ev_iload rfl rfl ?_
    refine Ev_iload rfl rfl ?_
    refine Ev_icmp_ge rfl (fun h66 => absurd h66 (nI_ge (by omega) (by omega))) (fun h66 => ?_)
    refine Ev_aload rfl rfl rfl ?_
    refine Ev_iload rfl rfl ?_
    refine Ev_callV rfl rfl rfl rfl rfl (same_n 402) (t_tb _ hρ (k := 2 + k) (by omega) (hf _ (by omega)) hb) ?_
    rintro v72 ρ72 σ72 ⟨rfl, e72, g72⟩
    obtain rfl := e72.symm
    obtain rfl := g72.symm
    refine Ev_const rfl ?_
    refine Ev_icmp_le rfl (fun h77 => ?_) (fun h77 => ?_)
    · refine Ev_iincE rfl rfl (nI_1 (2 + k)) ?_
      refine Ev_goto rfl ?_
      exact ih (k + 1) (by omega) (fun j hj => by
      by_cases hq : j = k
      · rw [hq]; exact decide_eq_true (Decidable.byContradiction fun z => absurd h77 (nI_ge (a := 99) (by omega) (by omega)))
      · exact ha j (by omega))
    · refine Ev_const rfl ?_
      exact Ev_ireturn rfl rfl rfl rfl (hQ2 (allK_no (k := k) (by omega) (decide_eq_false (fun z => h77 (nI_le (b := 99) z (by decide))))))
theorem ii_2 {d n : Nat} {σ : St} {f : Nat → Nat} {Q : Po} (hb : ρ 0 2 = some q) (hR : CRd ρ σ q B) (hW : WfN B) (hn : n = imM B + 1) (hf : ∀ j, j < n → σ.1 1 j = sb (f j)) (h256 : ∀ j, f j < 256)
    (hQ : allK (np B) (okP B f) = true → ∀ w, Ev l X (d + 2) 145 126 [.ref 0, .int (nI n), .int (nI (pl0 B)), .int (nI (imM B)), w] [] 402 402 402 ρ σ Q) (hQ2 : allK (np B) (okP B f) = false → Q (some (.int 0)) ρ σ) :
    ∀ (m k : Nat), k + m = np B → (∀ j, j < k → okP B f j = true) → Ev l X (d + 2) 145 91 [.ref 0, .int (nI n), .int (nI (pl0 B)), .int (nI (imM B)), .int (nI (pl0 B + 2 * k))] [] 402 402 402 ρ σ Q := by
  have hρ := hR.1
  have h82 := imM_le hW
  have hM := imM_pl B
  have n8 := hW.1
  have n6 := hW.2.1
  intro m
  induction m with
  | zero =>
    intro k hk ha
    have hk : k = np B := by omega
    subst hk
    refine Ev_iload rfl rfl ?_
    refine Ev_iload rfl rfl ?_
    refine Ev_icmp_ge rfl (fun h94 => ?_) (fun h94 => absurd (nI_le (by omega) (by omega)) h94)
    exact hQ (allK_of ha) _
  | succ m ih =>
    intro k hk ha
    have b0 := h256 (pl0 B + 2 * k)
    have b1 := h256 (pl0 B + 2 * k + 1)
    refine Ev_iload rfl rfl ?_
    refine Ev_iload rfl rfl ?_
    refine Ev_icmp_ge rfl (fun h94 => absurd h94 (nI_ge (by omega) (by omega))) (fun h94 => ?_)
    refine Ev_aload rfl rfl rfl ?_
    refine Ev_aload rfl rfl rfl ?_
    refine Ev_iload rfl rfl ?_
    refine Ev_callV rfl rfl rfl rfl rfl (same_n 402) (t_tb _ hρ (k := pl0 B + 2 * k) (by omega) (hf _ (by omega)) b0) ?_
    rintro v101 ρ101 σ101 ⟨rfl, e101, g101⟩
    obtain rfl := e101.symm
    obtain rfl := g101.symm
    refine Ev_aload rfl rfl rfl ?_
    refine Ev_iload rfl rfl ?_
    refine Ev_const rfl ?_
    refine Ev_iadd rfl ?_
    refine Ev_norm (nI_1 _) ?_
    refine Ev_callV rfl rfl rfl rfl rfl (same_n 402) (t_tb _ hρ (k := pl0 B + 2 * k + 1) (by omega) (hf _ (by omega)) b1) ?_
    rintro v109 ρ109 σ109 ⟨rfl, e109, g109⟩
    obtain rfl := e109.symm
    obtain rfl := g109.symm
    refine Ev_callV rfl rfl rfl rfl rfl (same_n 402) (t_hasBoth _ _ _ hb hR hW) ?_
    rintro v112 ρ112 σ112 ⟨rfl, e112, g112⟩
    obtain rfl := e112.symm
    obtain rfl := g112.symm
    refine Ev_norm (show _ = bI (okP B f k) by rw [hasF_by (by omega) b0, hasF_by (by omega) b1]; rfl) ?_
    refine Ev_if_ne rfl (fun h115 => ?_) (fun h115 => ?_)
    · refine Ev_iincE rfl rfl (nI_add _ 2 : _ = nI (pl0 B + 2 * k + 2)) ?_
      refine Ev_goto rfl ?_
      have := ih (k + 1) (by omega) (fun j hj => by
        by_cases hq : j = k
        · rw [hq]; exact rt_of h115
        · exact ha j (by omega))
      rw [show pl0 B + 2 * (k + 1) = pl0 B + 2 * k + 2 by omega] at this
      exact this
    · refine Ev_const rfl ?_
      exact Ev_ireturn rfl rfl rfl rfl (hQ2 (allK_no (k := k) (by omega) (ff_of (Decidable.not_not.mp h115))))
theorem t_isImage (d : Nat) {n : Nat} {σ : St} {f : Nat → Nat} (hb : ρ 0 2 = some q) (hR : CRd ρ σ q B) (hW : WfN B) (hrows : σ.1 32 2 = nI (np B)) (hn : n ≤ 1600) (hf : ∀ j, j < n → σ.1 1 j = sb (f j)) (h256 : ∀ j, f j < 256) :
    T l X (d + 2) 145 [.ref 0, .int (nI n)] 402 402 ρ σ (Rs (.int (bI (onB B n f))) ρ σ) := by
  have hρ := hR.1
  have h82 := imM_le hW
  have hM := imM_pl B
  have hp : pl0 B = 2 + nb B * ni B := rfl
  have n8 := hW.1
  have n6 := hW.2.1
  have n16 := hW.2.2.2.1
  refine T_of rfl ?_
  refine Ev_const rfl ?_
  refine Ev_aload rfl rfl rfl ?_
  refine Ev_getR rfl (by first | rfl | assumption) hb ?_
  refine Ev_getI rfl (by rcases hR.2.1 with rfl | rfl <;> rfl) ?_
  refine Ev_norm hR.2.2.2.1.2.2.1 ?_
  refine Ev_aload rfl rfl rfl ?_
  refine Ev_getR rfl (by first | rfl | assumption) hb ?_
  refine Ev_getI rfl (by rcases hR.2.1 with rfl | rfl <;> rfl) ?_
  refine Ev_norm hR.2.2.2.1.1 ?_
  refine Ev_imul rfl ?_
  refine Ev_norm (pk_mul (nb B) (ni B)) ?_
  refine Ev_iadd rfl ?_
  refine Ev_norm (show _ = nI (pl0 B) from nI_add 2 (nb B * ni B)) ?_
  refine Ev_istore rfl ?_
  refine Ev_iload rfl rfl ?_
  refine Ev_const rfl ?_
  refine Ev_aload rfl rfl rfl ?_
  refine Ev_getR rfl (by first | rfl | assumption) (hρ _ _ _ rfl) ?_
  refine Ev_getI rfl (by first | rfl | assumption) ?_
  refine Ev_norm hrows ?_
  refine Ev_imul rfl ?_
  refine Ev_norm (pk_mul 2 (np B) : _ = nI (2 * np B)) ?_
  refine Ev_iadd rfl ?_
  refine Ev_norm (show _ = nI (imM B) from nI_add (pl0 B) (2 * np B)) ?_
  refine Ev_istore rfl ?_
  refine Ev_iload rfl rfl ?_
  refine Ev_iload rfl rfl ?_
  refine Ev_const rfl ?_
  refine Ev_iadd rfl ?_
  refine Ev_norm (nI_1 (imM B)) ?_
  refine Ev_icmp_ne rfl (fun h34 => ?_) (fun h34 => ?_)
  · refine Ev_const rfl ?_
    exact Ev_ireturn rfl rfl rfl rfl ⟨by
    unfold onB
    rw [decide_eq_false (p := n = imM B + 1) (fun z => h34 (by rw [z]))]; rfl, rfl, rfl⟩
  · have hnn : n = imM B + 1 := (nI_eq (by omega) (by omega)).mp (Decidable.not_not.mp h34)
    have b0 := h256 0
    have b1 := h256 1
    refine Ev_const rfl ?_
    refine Ev_aload rfl rfl rfl ?_
    refine Ev_const rfl ?_
    refine Ev_callV rfl rfl rfl rfl rfl (same_n 402) (t_tb _ hρ (k := 0) (by decide) (hf 0 (by omega)) b0) ?_
    rintro v42 ρ42 σ42 ⟨rfl, e42, g42⟩
    obtain rfl := e42.symm
    obtain rfl := g42.symm
    refine Ev_imul rfl ?_
    refine Ev_norm (pk_mul 256 (f 0) : _ = nI (256 * f 0)) ?_
    refine Ev_aload rfl rfl rfl ?_
    refine Ev_const rfl ?_
    refine Ev_callV rfl rfl rfl rfl rfl (same_n 402) (t_tb _ hρ (k := 1) (by decide) (hf 1 (by omega)) b1) ?_
    rintro v48 ρ48 σ48 ⟨rfl, e48, g48⟩
    obtain rfl := e48.symm
    obtain rfl := g48.symm
    refine Ev_iadd rfl ?_
    refine Ev_norm (nI_add _ _) ?_
    refine Ev_const rfl ?_
    refine Ev_icmp_le rfl (fun h55 => ?_) (fun h55 => ?_)
    · refine Ev_const rfl ?_
      refine Ev_istore rfl ?_
      have hh : 256 * f 0 + f 1 ≤ 999 := Decidable.byContradiction fun z => absurd h55 (nI_ge (a := 999) (by omega) (by omega))
      refine ii_1 (d := d) (n := n) (f := f) (k := 0) hρ hW hnn hf h256 (fun a1 => ?_) (fun a1 => ⟨by unfold onB; rw [a1, Bool.false_and, Bool.and_false, Bool.and_false]; rfl, rfl, rfl⟩) (nb B * ni B) (by omega) (fun j hj => absurd hj (Nat.not_lt_zero j))
      refine Ev_iload rfl rfl ?_
      refine Ev_istore rfl ?_
      refine ii_2 (d := d) (n := n) (f := f) (k := 0) hb hR hW hnn hf h256 (fun a2 w => ?_) (fun a2 => ⟨by unfold onB; rw [a2, Bool.false_and, Bool.and_false, Bool.and_false, Bool.and_false]; rfl, rfl, rfl⟩) (np B) (by omega) (fun j hj => absurd hj (Nat.not_lt_zero j))
      have bM := h256 (imM B)
      have hck := ck_lt f (imM B)
      refine Ev_aload rfl rfl rfl ?_
      refine Ev_iload rfl rfl ?_
      refine Ev_callV rfl rfl rfl rfl rfl (same_n 402) (t_tb _ hρ (k := imM B) (by omega) (hf _ (by omega)) bM) ?_
      rintro v128 ρ128 σ128 ⟨rfl, e128, g128⟩
      obtain rfl := e128.symm
      obtain rfl := g128.symm
      refine Ev_aload rfl rfl rfl ?_
      refine Ev_getR rfl (by first | rfl | assumption) (hρ _ _ _ rfl) ?_
      refine Ev_iload rfl rfl ?_
      refine Ev_callS rfl rfl rfl rfl (same_n 402) (t_checkOf _ (L := 1600) (f := f) rfl rfl (by omega) (by decide) (fun j hj => hf j (by omega)) (fun j hj => h256 j)) ?_
      rintro v136 ρ136 σ136 ⟨rfl, e136, g136⟩
      obtain rfl := e136.symm
      obtain rfl := g136.symm
      refine Ev_icmp_ne rfl (fun h139 => ?_) (fun h139 => ?_)
      · refine Ev_const rfl ?_
        exact Ev_ireturn rfl rfl rfl rfl ⟨by unfold onB; rw [a1, a2, decide_eq_true hnn, decide_eq_true hh, decide_eq_false (fun z => h139 (by rw [z]))]; rfl, rfl, rfl⟩
      · refine Ev_const rfl ?_
        refine Ev_goto rfl ?_
        exact Ev_ireturn rfl rfl rfl rfl ⟨by unfold onB; rw [a1, a2, decide_eq_true hnn, decide_eq_true hh, decide_eq_true ((nI_eq (by omega) (by omega)).mp (Decidable.not_not.mp h139))]; rfl, rfl, rfl⟩
    · refine Ev_const rfl ?_
      exact Ev_ireturn rfl rfl rfl rfl ⟨by
      have hh : ¬ 256 * f 0 + f 1 ≤ 999 := fun z => h55 (nI_le (b := 999) z (by decide))
      unfold onB
      rw [decide_eq_false hh, Bool.false_and, Bool.and_false]; rfl, rfl, rfl⟩
/-! the reference -/
theorem mii_1 {d n : Nat} {σ : St} {f : Nat → Nat} {Q : Po} (hρ : RF ρ) (hW : WfN B) (hn : n = imM B + 1) (hf : ∀ j, j < n → σ.1 327 j = nI (f j)) (h256 : ∀ j, f j < 256)
    (hQ : allK (nb B * ni B) (fun k => decide (f (2 + k) ≤ 99)) = true → Ev l X (d + 2) 295 98 [.ref 326, .int (nI n), .int (nI (pl0 B)), .int (nI (pl0 B))] [] 402 402 402 ρ σ Q) (hQ2 : allK (nb B * ni B) (fun k => decide (f (2 + k) ≤ 99)) = false → Q (some (.int 0)) ρ σ) :
    ∀ (m k : Nat), k + m = nb B * ni B → (∀ j, j < k → decide (f (2 + j) ≤ 99) = true) → Ev l X (d + 2) 295 74 [.ref 326, .int (nI n), .int (nI (pl0 B)), .int (nI (2 + k))] [] 402 402 402 ρ σ Q := by
  have h82 := imM_le hW
  have hM := imM_pl B
  have hp : pl0 B = 2 + nb B * ni B := rfl
  intro m
  induction m with
  | zero =>
    intro k hk ha
    have hk : k = nb B * ni B := by omega
    subst hk
    refine Ev_iload rfl rfl ?_
    refine Ev_iload rfl rfl ?_
    refine Ev_icmp_ge rfl (fun h76 => ?_) (fun h76 => absurd (nI_le (Nat.le_refl _) (by omega)) h76)
    exact hQ (allK_of ha)
  | succ m ih =>
    intro k hk ha
    have hb := h256 (2 + k)
    refine Ev_iload rfl rfl ?_
    refine Ev_iload rfl rfl ?_
    refine Ev_icmp_ge rfl (fun h76 => absurd h76 (nI_ge (by omega) (by omega))) (fun h76 => ?_)
    refine Ev_aload rfl rfl rfl ?_
    refine Ev_getR rfl (by first | rfl | assumption) (hρ _ _ _ rfl) ?_
    refine Ev_iload rfl rfl ?_
    refine Ev_iald rfl (by first | rfl | assumption) (vp_in_nI (n := 2 + k) (show 2 + k < 1600 by omega) (by decide)) ?_
    refine Ev_norm (by rw [nI_clamp (by omega)]; exact hf _ (by omega) : _ = nI (f (2 + k))) ?_
    refine Ev_const rfl ?_
    refine Ev_icmp_le rfl (fun h87 => ?_) (fun h87 => ?_)
    · refine Ev_iincE rfl rfl (nI_1 (2 + k)) ?_
      refine Ev_goto rfl ?_
      exact ih (k + 1) (by omega) (fun j hj => by
      by_cases hq : j = k
      · rw [hq]; exact decide_eq_true (Decidable.byContradiction fun z => absurd h87 (nI_ge (a := 99) (by omega) (by omega)))
      · exact ha j (by omega))
    · refine Ev_const rfl ?_
      exact Ev_ireturn rfl rfl rfl rfl (hQ2 (allK_no (k := k) (by omega) (decide_eq_false (fun z => h87 (nI_le (b := 99) z (by decide))))))
theorem mii_2 {d n : Nat} {σ : St} {f : Nat → Nat} {Q : Po} (hρ : RF ρ) (hNu : MNum σ B) (hW : WfN B) (hn : n = imM B + 1) (hf : ∀ j, j < n → σ.1 327 j = nI (f j)) (h256 : ∀ j, f j < 256)
    (hQ : allK (np B) (okP B f) = true → Q (some (.int 1)) ρ σ) (hQ2 : allK (np B) (okP B f) = false → Q (some (.int 0)) ρ σ) :
    ∀ (m k : Nat), k + m = np B → (∀ j, j < k → okP B f j = true) → Ev l X (d + 2) 295 100 [.ref 326, .int (nI n), .int (nI (pl0 B)), .int (nI (pl0 B + 2 * k))] [] 402 402 402 ρ σ Q := by
  have h82 := imM_le hW
  have hM := imM_pl B
  have n8 := hW.1
  have n6 := hW.2.1
  intro m
  induction m with
  | zero =>
    intro k hk ha
    have hk : k = np B := by omega
    subst hk
    refine Ev_iload rfl rfl ?_
    refine Ev_iload rfl rfl ?_
    refine Ev_const rfl ?_
    refine Ev_isub rfl ?_
    refine Ev_norm (pk_sub (a := n) (b := 1) (by omega) : _ = nI (n - 1)) ?_
    refine Ev_icmp_ge rfl (fun h104 => ?_) (fun h104 => absurd (nI_le (by omega) (by omega)) h104)
    refine Ev_const rfl ?_
    exact Ev_ireturn rfl rfl rfl rfl (hQ (allK_of ha))
  | succ m ih =>
    intro k hk ha
    have b0 := h256 (pl0 B + 2 * k)
    have b1 := h256 (pl0 B + 2 * k + 1)
    refine Ev_iload rfl rfl ?_
    refine Ev_iload rfl rfl ?_
    refine Ev_const rfl ?_
    refine Ev_isub rfl ?_
    refine Ev_norm (pk_sub (a := n) (b := 1) (by omega) : _ = nI (n - 1)) ?_
    refine Ev_icmp_ge rfl (fun h104 => absurd h104 (nI_ge (by omega) (by omega))) (fun h104 => ?_)
    refine Ev_aload rfl rfl rfl ?_
    refine Ev_aload rfl rfl rfl ?_
    refine Ev_getR rfl (by first | rfl | assumption) (hρ _ _ _ rfl) ?_
    refine Ev_iload rfl rfl ?_
    refine Ev_iald rfl (by first | rfl | assumption) (vp_in_nI (n := pl0 B + 2 * k) (show pl0 B + 2 * k < 1600 by omega) (by decide)) ?_
    refine Ev_norm (by rw [nI_clamp (by omega)]; exact hf _ (by omega) : _ = nI (f (pl0 B + 2 * k))) ?_
    refine Ev_callV rfl rfl rfl rfl rfl (same_n 402) (m_isBather _ hρ hNu hW _) ?_
    rintro v114 ρ114 σ114 ⟨rfl, e114, g114⟩
    obtain rfl := e114.symm
    obtain rfl := g114.symm
    refine Ev_norm (show _ = bI (decide (f (pl0 B + 2 * k) < nb B)) by rw [← hasF_eq, hasF_by (by omega) b0]) ?_
    refine Ev_if_eq rfl (fun h117 => ?_) (fun h117 => ?_)
    · refine Ev_const rfl ?_
      exact Ev_ireturn rfl rfl rfl rfl (hQ2 (allK_no (k := k) (by omega) (by unfold okP; rw [ff_of h117]; rfl)))
    · refine Ev_aload rfl rfl rfl ?_
      refine Ev_aload rfl rfl rfl ?_
      refine Ev_getR rfl (by first | rfl | assumption) (hρ _ _ _ rfl) ?_
      refine Ev_iload rfl rfl ?_
      refine Ev_const rfl ?_
      refine Ev_iadd rfl ?_
      refine Ev_norm (nI_1 _) ?_
      refine Ev_iald rfl (by first | rfl | assumption) (vp_in_nI (n := pl0 B + 2 * k + 1) (show pl0 B + 2 * k + 1 < 1600 by omega) (by decide)) ?_
      refine Ev_norm (by rw [nI_clamp (by omega)]; exact hf _ (by omega) : _ = nI (f (pl0 B + 2 * k + 1))) ?_
      refine Ev_i2l rfl ?_
      refine Ev_callV rfl rfl rfl rfl rfl (same_n 402) (m_isIdea _ hρ hNu hW _) ?_
      rintro v130 ρ130 σ130 ⟨rfl, e130, g130⟩
      obtain rfl := e130.symm
      obtain rfl := g130.symm
      refine Ev_norm (show _ = bI (decide (f (pl0 B + 2 * k + 1) < ni B)) by rw [l_of, ← hasF_eq, hasF_by (by omega) b1]) ?_
      refine Ev_if_ne rfl (fun h133 => ?_) (fun h133 => ?_)
      · refine Ev_iincE rfl rfl (nI_add _ 2 : _ = nI (pl0 B + 2 * k + 2)) ?_
        refine Ev_goto rfl ?_
        have := ih (k + 1) (by omega) (fun j hj => by
          by_cases hq : j = k
          · rw [hq]; unfold okP; rw [rt_of h117, rt_of h133]; rfl
          · exact ha j (by omega))
        rw [show pl0 B + 2 * (k + 1) = pl0 B + 2 * k + 2 by omega] at this
        exact this
      · refine Ev_const rfl ?_
        exact Ev_ireturn rfl rfl rfl rfl (hQ2 (allK_no (k := k) (by omega) (by unfold okP; rw [ff_of (Decidable.not_not.mp h133), Bool.and_false])))
theorem m_isImage (d : Nat) {n : Nat} {σ : St} {f : Nat → Nat} (hρ : RF ρ) (hNu : MNum σ B) (hW : WfN B) (hn : n ≤ 1600) (hf : ∀ j, j < n → σ.1 327 j = nI (f j)) (h256 : ∀ j, f j < 256) :
    T l X (d + 2) 295 [.ref 326, .int (nI n)] 402 402 ρ σ (Rs (.int (bI (onB B n f))) ρ σ) := by
  have h82 := imM_le hW
  have hM := imM_pl B
  have hp : pl0 B = 2 + nb B * ni B := rfl
  have n8 := hW.1
  have n6 := hW.2.1
  have n16 := hW.2.2.2.1
  refine T_of rfl ?_
  refine Ev_const rfl ?_
  refine Ev_aload rfl rfl rfl ?_
  refine Ev_callV rfl rfl rfl rfl rfl (same_n 402) (m_batherMany _ hρ hNu) ?_
  rintro v2 ρ2 σ2 ⟨rfl, e2, g2⟩
  obtain rfl := e2.symm
  obtain rfl := g2.symm
  refine Ev_aload rfl rfl rfl ?_
  refine Ev_callV rfl rfl rfl rfl rfl (same_n 402) (m_ideaMany _ hρ hNu) ?_
  rintro v6 ρ6 σ6 ⟨rfl, e6, g6⟩
  obtain rfl := e6.symm
  obtain rfl := g6.symm
  refine Ev_imul rfl ?_
  refine Ev_norm (pk_mul (nb B) (ni B)) ?_
  refine Ev_iadd rfl ?_
  refine Ev_norm (show _ = nI (pl0 B) from nI_add 2 (nb B * ni B)) ?_
  refine Ev_istore rfl ?_
  refine Ev_iload rfl rfl ?_
  refine Ev_iload rfl rfl ?_
  refine Ev_const rfl ?_
  refine Ev_aload rfl rfl rfl ?_
  refine Ev_callV rfl rfl rfl rfl rfl (same_n 402) (m_planMany _ hρ hNu) ?_
  rintro v16 ρ16 σ16 ⟨rfl, e16, g16⟩
  obtain rfl := e16.symm
  obtain rfl := g16.symm
  refine Ev_imul rfl ?_
  refine Ev_norm (pk_mul 2 (np B) : _ = nI (2 * np B)) ?_
  refine Ev_iadd rfl ?_
  refine Ev_norm (show _ = nI (imM B) from nI_add (pl0 B) (2 * np B)) ?_
  refine Ev_const rfl ?_
  refine Ev_iadd rfl ?_
  refine Ev_norm (nI_1 (imM B)) ?_
  refine Ev_icmp_ne rfl (fun h23 => ?_) (fun h23 => ?_)
  · refine Ev_const rfl ?_
    exact Ev_ireturn rfl rfl rfl rfl ⟨by unfold onB; rw [decide_eq_false (p := n = imM B + 1) (fun z => h23 (by rw [z]))]; rfl, rfl, rfl⟩
  · have hnn : n = imM B + 1 := (nI_eq (by omega) (by omega)).mp (Decidable.not_not.mp h23)
    have b0 := h256 0
    have b1 := h256 1
    have bM := h256 (imM B)
    have hck := ck_lt f (imM B)
    refine Ev_aload rfl rfl rfl ?_
    refine Ev_getR rfl (by first | rfl | assumption) (hρ _ _ _ rfl) ?_
    refine Ev_iload rfl rfl ?_
    refine Ev_const rfl ?_
    refine Ev_isub rfl ?_
    refine Ev_norm (show _ = nI (imM B) by rw [hnn]; exact nI_pred _) ?_
    refine Ev_iald rfl (by first | rfl | assumption) (vp_in_nI (n := imM B) (show imM B < 1600 by omega) (by decide)) ?_
    refine Ev_norm (by rw [nI_clamp (by omega)]; exact hf _ (by omega) : _ = nI (f (imM B))) ?_
    refine Ev_aload rfl rfl rfl ?_
    refine Ev_getR rfl (by first | rfl | assumption) (hρ _ _ _ rfl) ?_
    refine Ev_iload rfl rfl ?_
    refine Ev_const rfl ?_
    refine Ev_isub rfl ?_
    refine Ev_norm (show _ = nI (imM B) by rw [hnn]; exact nI_pred _) ?_
    refine Ev_callS rfl rfl rfl rfl (same_n 402) (m_checked _ (L := 1600) (f := f) rfl rfl (by omega) (by decide) (fun j hj => hf j (by omega)) (fun j hj => h256 j)) ?_
    rintro v41 ρ41 σ41 ⟨rfl, e41, g41⟩
    obtain rfl := e41.symm
    obtain rfl := g41.symm
    refine Ev_icmp_ne rfl (fun h44 => ?_) (fun h44 => ?_)
    · refine Ev_const rfl ?_
      exact Ev_ireturn rfl rfl rfl rfl ⟨by unfold onB; rw [decide_eq_false (p := f (imM B) = ck f (imM B)) (fun z => h44 (by rw [z])), Bool.and_false, Bool.and_false, Bool.and_false, Bool.and_false]; rfl, rfl, rfl⟩
    · refine Ev_const rfl ?_
      refine Ev_aload rfl rfl rfl ?_
      refine Ev_getR rfl (by first | rfl | assumption) (hρ _ _ _ rfl) ?_
      refine Ev_const rfl ?_
      refine Ev_iald rfl (by first | rfl | assumption) (vp_in_nI (n := 0) (by decide) (by decide)) ?_
      refine Ev_norm (hf 0 (by omega)) ?_
      refine Ev_imul rfl ?_
      refine Ev_norm (pk_mul 256 (f 0) : _ = nI (256 * f 0)) ?_
      refine Ev_aload rfl rfl rfl ?_
      refine Ev_getR rfl (by first | rfl | assumption) (hρ _ _ _ rfl) ?_
      refine Ev_const rfl ?_
      refine Ev_iald rfl (by first | rfl | assumption) (vp_in_nI (n := 1) (by decide) (by decide)) ?_
      refine Ev_norm (hf 1 (by omega)) ?_
      refine Ev_iadd rfl ?_
      refine Ev_norm (nI_add _ _) ?_
      refine Ev_const rfl ?_
      refine Ev_icmp_le rfl (fun h67 => ?_) (fun h67 => ?_)
      · refine Ev_const rfl ?_
        refine Ev_istore rfl ?_
        have hh : 256 * f 0 + f 1 ≤ 999 := Decidable.byContradiction fun z => absurd h67 (nI_ge (a := 999) (by omega) (by omega))
        have hc : f (imM B) = ck f (imM B) := (nI_eq (by omega) (by omega)).mp (Decidable.not_not.mp h44)
        refine mii_1 (d := d) (n := n) (f := f) (k := 0) hρ hW hnn hf h256 (fun a1 => ?_) (fun a1 => ⟨by unfold onB; rw [a1, Bool.false_and, Bool.and_false, Bool.and_false]; rfl, rfl, rfl⟩) (nb B * ni B) (by omega) (fun j hj => absurd hj (Nat.not_lt_zero j))
        refine Ev_iload rfl rfl ?_
        refine Ev_istore rfl ?_
        exact mii_2 (d := d) (n := n) (f := f) (k := 0) hρ hNu hW hnn hf h256 (fun a2 => ⟨by unfold onB; rw [a1, a2, decide_eq_true hnn, decide_eq_true hh, decide_eq_true hc]; rfl, rfl, rfl⟩) (fun a2 => ⟨by unfold onB; rw [a2, Bool.false_and, Bool.and_false, Bool.and_false, Bool.and_false]; rfl, rfl, rfl⟩) (np B) (by omega) (fun j hj => absurd hj (Nat.not_lt_zero j))
      · refine Ev_const rfl ?_
        exact Ev_ireturn rfl rfl rfl rfl ⟨by
        have hh : ¬ 256 * f 0 + f 1 ≤ 999 := fun z => h67 (nI_le (b := 999) z (by decide))
        unfold onB
        rw [decide_eq_false hh, Bool.false_and, Bool.and_false]; rfl, rfl, rfl⟩
end S75
