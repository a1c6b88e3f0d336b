/-! By which strength he keeps, untold. -/
theorem kp_unt (see : Nat → Int) : evF see (unt 1) = two 37 (two 36 20 (two 38 (see 2) 5)) (see 1) := rfl
theorem kp_val {w d : Nat} (hw : w ≤ 9) (hd : d ≤ 9) : two 37 (two 36 20 (two 38 ((w : Nat) : Int) 5)) ((d : Nat) : Int) = 20 + 5 * (w : Int) - (d : Int) := by
  rw [two37, two36, two38, clip_id (z := (w : Int) * 5) ⟨by omega, by omega⟩, clip_id (z := 20 + (w : Int) * 5) ⟨by omega, by omega⟩, clip_id ⟨by omega, by omega⟩]
  omega
theorem kp_long {w d : Nat} (hw : w ≤ 9) (hd : d ≤ 9) : ((20 : Int64) + 5 * lI (w : Int) - lI (d : Int)).toInt = 20 + 5 * (w : Int) - (d : Int) := by
  have h5 : (5 : Int64).toInt = 5 := rfl
  have h20 : (20 : Int64).toInt = 20 := rfl
  rw [Int64.toInt_sub, Int64.toInt_add, Int64.toInt_mul, z_lI (v := (w : Int)) ⟨by omega, by omega⟩, z_lI (v := (d : Int)) ⟨by omega, by omega⟩, h5, h20, bm64 (z := 5 * (w : Int)) (by omega), bm64 (z := 20 + 5 * (w : Int)) (by omega), bm64 (by omega)]
section S35
variable {l : Launch} {X : Cx} {ρ : Rf} {σ : St} {B : Bh} {S : Str} {W : Nat → Nat}
theorem m_keptOf (d : Nat) {h tide b i : Nat} (hρ : RF ρ) (hR : MRd σ B S W h) (hF : MFrm σ B) (hW : WfN B) (hWt : WfT B) (hWf : WfF B) (hbd : ∀ b i, S b i ≤ 99) (hWb : ∀ b, W b ≤ 9) (hh : h ≤ 2000) (hti : σ.1 326 58 = nI tide) (ht9 : tide ≤ 9) (hb : b < nb B) (hi : i < ni B) :
    T l X (d + 5) 208 [.ref 326, .int (nI b), .int (nI i)] 402 402 ρ σ (fun v ρ' σ' => v = some (.int (nI (kpM B (S b) b (W b) h tide i))) ∧ ρ' = ρ ∧ MSc σ σ') := by
  have h8 := hW.1
  have hd9 := (hWt.1 i hi).1
  have hw9 := hWb b
  refine T_of rfl ?_
  refine Ev_aload rfl rfl rfl ?_
  refine Ev_const rfl ?_
  refine Ev_callV rfl rfl rfl rfl rfl (same_n 402) (m_isTold _ hρ hF (k := 1) (by decide)) ?_
  rintro v2 ρ2 σ2 ⟨rfl, e2, g2⟩
  obtain rfl := e2.symm
  obtain rfl := g2.symm
  refine Ev_if_ne rfl (fun h5 => ?_) (fun h5 => ?_)
  · obtain ⟨cs, hf⟩ : ∃ cs, frm B 1 = some cs := by cases hf : frm B 1 with | none => (rw [hf] at h5; exact absurd rfl h5) | some cs => exact ⟨cs, rfl⟩
    obtain ⟨hlen, hty⟩ := hWf 1 (by decide) cs hf
    have hz := evF_ok hty (see := fun s => ((seeF B (S b) b (W b) h tide i 0 0 s : Nat) : Int)) (fun s hs ho => seeBd hWt (hWb b) hh ht9 (by decide) (by decide) (fun _ => hb) hW.2.1 (fun _ => hi) hs ho) (fun q => absurd q (by decide))
    refine Ev_aload rfl rfl rfl ?_
    refine Ev_iload rfl rfl ?_
    refine Ev_putI rfl (by first | rfl | assumption) ⟨rfl, rfl⟩ rfl ?_
    refine Ev_aload rfl rfl rfl ?_
    refine Ev_iload rfl rfl ?_
    refine Ev_putI rfl (by first | rfl | assumption) ⟨rfl, rfl⟩ rfl ?_
    refine Ev_st rfl (rfl : _ = ask2 σ b i) ?_
    refine Ev_aload rfl rfl rfl ?_
    refine Ev_const rfl ?_
    refine Ev_callV rfl rfl rfl rfl rfl (same_n 402) (m_codesTell (R := 0) _ hρ (hR.sc (ask2_sc σ b i)) (hF.sc (ask2_sc σ b i)) hW hWt hbd hWb hh ht9 (v := 0) (by decide) (k := 1) (by decide) hf hty (by decide) (ask2_see hR.2.2.2.2 hti (by decide) hb hi)) ?_
    rintro v52 ρ52 σ52 ⟨rfl, e52, hsc⟩
    obtain rfl := e52.symm
    refine Ev_const rfl ?_
    refine Ev_const rfl ?_
    refine Ev_callS rfl rfl rfl rfl (same_n 402) (m_cut _ _ _ _) ?_
    rintro v58 ρ58 σ58 ⟨rfl, e58, g58⟩
    obtain rfl := e58.symm
    obtain rfl := g58.symm
    refine Ev_norm (cut_btw (lo := 1) (hi := 99) rfl (Bd_Bl hz.1) (by decide) (by decide) : _ = nI (btw 1 99 _)) ?_
    exact Ev_ireturn rfl rfl rfl rfl ⟨by unfold kpM cod; rw [hf], rfl, (ask2_sc σ b i).tr hsc⟩
  · refine Ev_constL rfl ?_
    refine Ev_constL rfl ?_
    refine Ev_aload rfl rfl rfl ?_
    refine Ev_iload rfl rfl ?_
    refine Ev_callV rfl rfl rfl rfl rfl (same_n 402) (m_witsOf _ hρ hW hR.2.2.2.1 hb) ?_
    rintro v16 ρ16 σ16 ⟨rfl, e16, g16⟩
    obtain rfl := e16.symm
    obtain rfl := g16.symm
    refine Ev_i2l rfl ?_
    refine Ev_normL (nI_lI _ (by omega)) ?_
    refine Ev_lmul rfl ?_
    refine Ev_ladd rfl ?_
    refine Ev_aload rfl rfl rfl ?_
    refine Ev_getR rfl (by first | rfl | assumption) (hρ _ _ _ rfl) ?_
    refine Ev_const rfl ?_
    refine Ev_iload rfl rfl ?_
    refine Ev_iadd rfl ?_
    refine Ev_norm (nI_add 8 i) ?_
    refine Ev_iald rfl (by first | rfl | assumption) (vp_in_nI (n := 8 + i) (show 8 + i < 16 by omega) (by decide)) ?_
    refine Ev_norm (by rw [nI_clamp (by omega)]; exact (hR.2.1.1 i hi).1 : _ = nI (dep B i)) ?_
    refine Ev_i2l rfl ?_
    refine Ev_normL (nI_lI _ (by omega)) ?_
    refine Ev_lsub rfl ?_
    refine Ev_normL (lI_eq (kp_long hw9 hd9) : _ = lI (20 + 5 * ((W b : Nat) : Int) - ((dep B i : Nat) : Int))) ?_
    refine Ev_const rfl ?_
    refine Ev_const rfl ?_
    refine Ev_callS rfl rfl rfl rfl (same_n 402) (m_cut _ _ _ _) ?_
    rintro v36 ρ36 σ36 ⟨rfl, e36, g36⟩
    obtain rfl := e36.symm
    obtain rfl := g36.symm
    refine Ev_norm (cut_btw (lo := 1) (hi := 99) rfl ⟨by omega, by omega⟩ (by decide) (by decide) : _ = nI (btw 1 99 _)) ?_
    exact Ev_ireturn rfl rfl rfl rfl ⟨by
    have hf : frm B 1 = none := by
      cases hf : frm B 1 with
      | none => rfl
      | some cs => rw [hf] at h5; exact absurd (by decide : ¬ bI true = 0) h5
    unfold kpM cod
    rw [hf, kp_unt, ← kp_val hw9 hd9]
    rfl, rfl, MSc.rf _⟩
end S35
