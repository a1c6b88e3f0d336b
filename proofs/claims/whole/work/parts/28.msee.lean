/-! What the reference's formulas see. -/
/-- the sights: of a bather b with that row and such wits, at an hour and a tide; of an idea i, a strength v; R: the ideas that are ready -/
def seeF (B : Bh) (row : Nat → Nat) (b w h tide i v R : Nat) : Nat → Nat
  | 0 => h
  | 1 => dep B i
  | 2 => w
  | 3 => pc (kset (ni B) row)
  | 4 => lun B b
  | 5 => tide
  | 6 => v
  | 7 => (bif rtd B (kset (ni B) row) i then 1 else 0)
  | 8 => b
  | 9 => R
  | s + 10 => row s
def MSee (σ : St) (B : Bh) (h tide k a i v : Nat) : Prop :=
  σ.1 365 0 = nI h ∧ (k ≠ 0 ∧ k ≠ 2 → σ.1 326 58 = nI tide) ∧ (k ≠ 0 → σ.1 326 55 = nI a ∧ a < nb B) ∧ (k = 1 ∨ k = 2 ∨ k = 3 → σ.1 326 56 = nI i ∧ i < ni B) ∧ (k = 2 → σ.1 326 57 = nI v)
theorem so_1 : ∀ k, k < 5 → sOk k 1 = true → k = 1 ∨ k = 2 ∨ k = 3 := by decide
theorem so_2 : ∀ k, k < 5 → sOk k 2 = true → k ≠ 0 := by decide
theorem so_3 : ∀ k, k < 5 → sOk k 3 = true → k ≠ 0 := by decide
theorem so_4 : ∀ k, k < 5 → sOk k 4 = true → k ≠ 0 := by decide
theorem so_5 : ∀ k, k < 5 → sOk k 5 = true → k ≠ 0 ∧ k ≠ 2 := by decide
theorem so_6 : ∀ k, k < 5 → sOk k 6 = true → k = 2 := by decide
theorem so_7 : ∀ k, k < 5 → sOk k 7 = true → k = 2 := by decide
theorem so_8 : ∀ k, k < 5 → sOk k 8 = true → k ≠ 0 := by decide
section S28
variable {l : Launch} {X : Cx} {ρ : Rf} {σ : St} {B : Bh} {S : Str} {W : Nat → Nat}
theorem m_qPartOf (d : Nat) (hρ : RF ρ) (hN : MNum σ B) (hW : WfN B) (hWt : WfT B) (hT : MTab σ B) (hS : MStr σ S) (hbd : ∀ b i, S b i ≤ 99) (hV : MWit σ B W) (hWb : ∀ b, W b ≤ 9) {h tide k a i v s R : Nat} (hM : MSee σ B h tide k a i v) (hh : h ≤ 2000) (ht : tide ≤ 9) (hv : v ≤ 99) (hk : k < 5) (hs : s < 9) (ho : sOk k s = true) (z : Int32) :
    T l X (d + 3) 285 [.ref 326, .int (nI s), .int z] 402 402 ρ σ (Rs (.long (lI ((seeF B (S a) a (W a) h tide i v R s : Nat) : Int))) ρ σ) := by
  obtain ⟨m1, m2, m3, m4, m5⟩ := hM
  have h8 := hW.1
  have h6 := hW.2.1
  have hsi : (nI s).toInt = (s : Int) := nI_toInt (by omega)
  refine T_of rfl ?_
  refine Ev_iload rfl rfl ?_
  refine Ev_tab rfl rfl (swP_c (fun h1_0 => ?_) (fun g1_0 => swP_c (fun h1_1 => ?_) (fun g1_1 => swP_c (fun h1_2 => ?_) (fun g1_2 => swP_c (fun h1_3 => ?_) (fun g1_3 => swP_c (fun h1_4 => ?_) (fun g1_4 => swP_c (fun h1_5 => ?_) (fun g1_5 => swP_c (fun h1_6 => ?_) (fun g1_6 => swP_c (fun h1_7 => ?_) (fun g1_7 => swP_n ?_)))))))))
  · obtain rfl : s = 0 := by rw [hsi] at h1_0; omega
    refine Ev_aload rfl rfl rfl ?_
    refine Ev_getR rfl (by first | rfl | assumption) (hρ _ _ _ rfl) ?_
    refine Ev_const rfl ?_
    refine Ev_iald rfl (by first | rfl | assumption) (vp_in_nI (n := 0) (by decide) (by decide)) ?_
    refine Ev_norm m1 ?_
    refine Ev_i2l rfl ?_
    refine Ev_normL (nI_lI h (by omega)) ?_
    exact Ev_lreturn rfl rfl rfl ⟨rfl, rfl, rfl⟩
  · obtain rfl : s = 1 := by rw [hsi] at h1_1; omega
    obtain ⟨q1, q2⟩ := m4 (so_1 k hk ho)
    refine Ev_aload rfl rfl rfl ?_
    refine Ev_getR rfl (by first | rfl | assumption) (hρ _ _ _ rfl) ?_
    refine Ev_const rfl ?_
    refine Ev_aload rfl rfl rfl ?_
    refine Ev_getI rfl (by first | rfl | assumption) ?_
    refine Ev_norm q1 ?_
    refine Ev_iadd rfl ?_
    refine Ev_norm (nI_add 8 i) ?_
    refine Ev_iald rfl (by first | rfl | assumption) (vp_in_nI (n := 8 + i) (show 8 + i < 16 by omega) (by decide)) ?_
    refine Ev_norm (by rw [nI_clamp (by omega)]; exact (hT.1 i q2).1 : _ = nI (dep B i)) ?_
    refine Ev_i2l rfl ?_
    refine Ev_normL (nI_lI _ (by have := (hWt.1 i q2).1; omega)) ?_
    exact Ev_lreturn rfl rfl rfl ⟨rfl, rfl, rfl⟩
  · obtain rfl : s = 2 := by rw [hsi] at h1_2; omega
    obtain ⟨q1, q2⟩ := m3 (so_2 k hk ho)
    refine Ev_aload rfl rfl rfl ?_
    refine Ev_aload rfl rfl rfl ?_
    refine Ev_getI rfl (by first | rfl | assumption) ?_
    refine Ev_norm q1 ?_
    refine Ev_callV rfl rfl rfl rfl rfl (same_n 402) (m_witsOf _ hρ hW hV q2) ?_
    rintro v75 ρ75 σ75 ⟨rfl, e75, g75⟩
    obtain rfl := e75.symm
    obtain rfl := g75.symm
    refine Ev_i2l rfl ?_
    refine Ev_normL (nI_lI _ (by have := hWb a; omega)) ?_
    exact Ev_lreturn rfl rfl rfl ⟨rfl, rfl, rfl⟩
  · obtain rfl : s = 3 := by rw [hsi] at h1_3; omega
    obtain ⟨q1, q2⟩ := m3 (so_3 k hk ho)
    refine Ev_aload rfl rfl rfl ?_
    refine Ev_aload rfl rfl rfl ?_
    refine Ev_getI rfl (by first | rfl | assumption) ?_
    refine Ev_norm q1 ?_
    refine Ev_callV rfl rfl rfl rfl rfl (same_n 402) (m_knownBy _ hρ hN hW hS (hbd a) (by omega)) ?_
    rintro v85 ρ85 σ85 ⟨rfl, e85, g85⟩
    obtain rfl := e85.symm
    obtain rfl := g85.symm
    refine Ev_i2l rfl ?_
    refine Ev_normL (nI_lI _ (by have := pc_le (kset (ni B) (S a)); omega)) ?_
    exact Ev_lreturn rfl rfl rfl ⟨rfl, rfl, rfl⟩
  · obtain rfl : s = 4 := by rw [hsi] at h1_4; omega
    obtain ⟨q1, q2⟩ := m3 (so_4 k hk ho)
    refine Ev_aload rfl rfl rfl ?_
    refine Ev_getR rfl (by first | rfl | assumption) (hρ _ _ _ rfl) ?_
    refine Ev_const rfl ?_
    refine Ev_const rfl ?_
    refine Ev_aload rfl rfl rfl ?_
    refine Ev_getI rfl (by first | rfl | assumption) ?_
    refine Ev_norm q1 ?_
    refine Ev_imul rfl ?_
    refine Ev_norm (pk_mul 2 a) ?_
    refine Ev_iadd rfl ?_
    refine Ev_norm (nI_add 12 (2 * a)) ?_
    refine Ev_iald rfl (by first | rfl | assumption) (vp_in_nI (n := 12 + 2 * a) (show 12 + 2 * a < 24 by omega) (by decide)) ?_
    refine Ev_norm (by rw [nI_clamp (by omega)]; exact (hT.2 a q2).1 : _ = nI (lun B a)) ?_
    refine Ev_i2l rfl ?_
    refine Ev_normL (nI_lI _ (by have := (hWt.2.1 a q2).1; omega)) ?_
    exact Ev_lreturn rfl rfl rfl ⟨rfl, rfl, rfl⟩
  · obtain rfl : s = 5 := by rw [hsi] at h1_5; omega
    refine Ev_aload rfl rfl rfl ?_
    refine Ev_getI rfl (by first | rfl | assumption) ?_
    refine Ev_norm (m2 (so_5 k hk ho)) ?_
    refine Ev_i2l rfl ?_
    refine Ev_normL (nI_lI _ (by omega)) ?_
    exact Ev_lreturn rfl rfl rfl ⟨rfl, rfl, rfl⟩
  · obtain rfl : s = 6 := by rw [hsi] at h1_6; omega
    refine Ev_aload rfl rfl rfl ?_
    refine Ev_getI rfl (by first | rfl | assumption) ?_
    refine Ev_norm (m5 (so_6 k hk ho)) ?_
    refine Ev_i2l rfl ?_
    refine Ev_normL (nI_lI _ (by omega)) ?_
    exact Ev_lreturn rfl rfl rfl ⟨rfl, rfl, rfl⟩
  · obtain rfl : s = 7 := by rw [hsi] at h1_7; omega
    obtain ⟨q1, q2⟩ := m3 (by have := so_7 k hk ho; omega)
    obtain ⟨q3, q4⟩ := m4 (Or.inr (Or.inl (so_7 k hk ho)))
    refine Ev_aload rfl rfl rfl ?_
    refine Ev_aload rfl rfl rfl ?_
    refine Ev_getI rfl (by first | rfl | assumption) ?_
    refine Ev_norm q1 ?_
    refine Ev_aload rfl rfl rfl ?_
    refine Ev_getI rfl (by first | rfl | assumption) ?_
    refine Ev_norm q3 ?_
    refine Ev_callV rfl rfl rfl rfl rfl (same_n 402) (m_isRooted _ hρ hN hW hT hS (hbd a) (by omega) q4) ?_
    rintro v127 ρ127 σ127 ⟨rfl, e127, g127⟩
    obtain rfl := e127.symm
    obtain rfl := g127.symm
    refine Ev_if_eq rfl (fun h130 => ?_) (fun h130 => ?_)
    · refine Ev_constL rfl ?_
      exact Ev_lreturn rfl rfl rfl ⟨by
      have e : rtd B (kset (ni B) (S a)) i = false := by
        cases hq : rtd B (kset (ni B) (S a)) i
        · rfl
        · rw [hq] at h130; exact absurd h130 (by decide)
      show _ = some (Value.long (lI (((bif rtd B (kset (ni B) (S a)) i then 1 else 0 : Nat) : Nat) : Int)))
      rw [e]
      rfl, rfl, rfl⟩
    · refine Ev_constL rfl ?_
      refine Ev_goto rfl ?_
      exact Ev_lreturn rfl rfl rfl ⟨by
      have e : rtd B (kset (ni B) (S a)) i = true := by
        cases hq : rtd B (kset (ni B) (S a)) i
        · rw [hq] at h130; exact absurd rfl h130
        · rfl
      show _ = some (Value.long (lI (((bif rtd B (kset (ni B) (S a)) i then 1 else 0 : Nat) : Nat) : Int)))
      rw [e]
      rfl, rfl, rfl⟩
  · obtain rfl : s = 8 := by rw [hsi] at g1_0 g1_1 g1_2 g1_3 g1_4 g1_5 g1_6 g1_7; omega
    obtain ⟨q1, q2⟩ := m3 (so_8 k hk ho)
    refine Ev_aload rfl rfl rfl ?_
    refine Ev_getI rfl (by first | rfl | assumption) ?_
    refine Ev_norm q1 ?_
    refine Ev_i2l rfl ?_
    refine Ev_normL (nI_lI _ (by omega)) ?_
    exact Ev_lreturn rfl rfl rfl ⟨rfl, rfl, rfl⟩
end S28
