/-! How what is known fades: the reference. -/
def fdM (B : Bh) (row : Nat → Nat) (b w h i v : Nat) : Nat := btw 0 99 (evF (fun s => ((seeF B row b w h 0 i v 0 s : Nat) : Int)) (cod B 2))
theorem fd_unt (see : Nat → Int) : evF see (unt 2) = two 37 (see 6) 1 := rfl
theorem so_5n : sOk 2 5 = false := by decide
def ask3 (σ : St) (b i v : Nat) : St := sI (ask2 σ b i) 326 (upd ((ask2 σ b i).1 326) 57 (nI v))
theorem ask3_sc (σ : St) (b i v : Nat) : MSc σ (ask3 σ b i v) := (ask2_sc σ b i).tr (MSc.put _ (nI v) rfl)
theorem ask3_see {σ : St} {B : Bh} {h tide b i v : Nat} (h0 : σ.1 365 0 = nI h) (hb : b < nb B) (hi : i < ni B) : MSee (ask3 σ b i v) B h tide 2 b i v := by
  refine ⟨?_, fun q => absurd rfl q.2, fun _ => ⟨?_, hb⟩, fun _ => ⟨?_, hi⟩, fun _ => ?_⟩
  · rw [(ask3_sc σ b i v).1 365 (by decide)]; exact h0
  · unfold ask3; rw [sR_0, pk_un (by decide)]; unfold ask2; rw [sR_0, pk_un (by decide), sR_0, pk_us]
  · unfold ask3; rw [sR_0, pk_un (by decide)]; unfold ask2; rw [sR_0, pk_us]
  · unfold ask3; rw [sR_0, pk_us]
section S36
variable {l : Launch} {X : Cx} {ρ : Rf} {σ : St} {B : Bh} {S : Str} {W : Nat → Nat}
theorem m_fadedOf (d : Nat) {h b i : Nat} (hρ : RF ρ) (hR : MRd σ B S W h) (hF : MFrm σ B) (hW : WfN B) (hWt : WfT B) (hWf : WfF B) (hbd : ∀ b i, S b i ≤ 99) (hWb : ∀ b, W b ≤ 9) (hh : h ≤ 2000) (hb : b < nb B) (hi : i < ni B) (hv : 0 < S b i) :
    T l X (d + 5) 209 [.ref 326, .int (nI b), .int (nI i)] 402 402 ρ σ (fun v ρ' σ' => v = some (.int (nI (fdM B (S b) b (W b) h i (S b i)))) ∧ ρ' = ρ ∧ MSc σ σ') := by
  have h8 := hW.1
  have h6 := hW.2.1
  have h99 := hbd b i
  refine T_of rfl ?_
  refine Ev_aload rfl rfl rfl ?_
  refine Ev_iload rfl rfl ?_
  refine Ev_iload rfl rfl ?_
  refine Ev_callV rfl rfl rfl rfl rfl (same_n 402) (m_strengthOf _ hρ hR.2.2.1 (by omega) (by omega)) ?_
  rintro v3 ρ3 σ3 ⟨rfl, e3, g3⟩
  obtain rfl := e3.symm
  obtain rfl := g3.symm
  refine Ev_istore rfl ?_
  refine Ev_aload rfl rfl rfl ?_
  refine Ev_const rfl ?_
  refine Ev_callV rfl rfl rfl rfl rfl (same_n 402) (m_isTold _ hρ hF (k := 2) (by decide)) ?_
  rintro v9 ρ9 σ9 ⟨rfl, e9, g9⟩
  obtain rfl := e9.symm
  obtain rfl := g9.symm
  refine Ev_if_ne rfl (fun h12 => ?_) (fun h12 => ?_)
  · obtain ⟨cs, hf⟩ : ∃ cs, frm B 2 = some cs := by cases hf : frm B 2 with | none => (rw [hf] at h12; exact absurd rfl h12) | some cs => exact ⟨cs, rfl⟩
    obtain ⟨hlen, hty⟩ := hWf 2 (by decide) cs hf
    have hz := evF_ok hty (see := fun s => ((seeF B (S b) b (W b) h 0 i (S b i) 0 s : Nat) : Int)) (fun s hs ho => seeBd hWt (hWb b) hh (Nat.zero_le 9) h99 (by decide) (fun _ => hb) hW.2.1 (fun _ => hi) hs ho) (fun q => absurd q (by decide))
    have hcg : evF (fun s => ((seeF B (S b) b (W b) h 0 i (S b i) 0 s : Nat) : Int)) cs = evF (fun s => ((seeF B (S b) b (W b) h 0 i (S b i) 0 s : Nat) : Int)) cs := evF_congr hty (fun s hs ho => by
    match s, ho with
    | 0, _ => rfl
    | 1, _ => rfl
    | 2, _ => rfl
    | 3, _ => rfl
    | 4, _ => rfl
    | 5, ho => exact absurd ho (by decide)
    | 6, _ => rfl
    | 7, _ => rfl
    | 8, _ => rfl
    | s + 9, _ => omega) (fun q => absurd q (by decide))
    refine Ev_aload rfl rfl rfl ?_
    refine Ev_iload rfl rfl ?_
    refine Ev_putI rfl (by first | rfl | assumption) ⟨rfl, rfl⟩ rfl ?_
    refine Ev_aload rfl rfl rfl ?_
    refine Ev_iload rfl rfl ?_
    refine Ev_putI rfl (by first | rfl | assumption) ⟨rfl, rfl⟩ rfl ?_
    refine Ev_aload rfl rfl rfl ?_
    refine Ev_iload rfl rfl ?_
    refine Ev_putI rfl (by first | rfl | assumption) ⟨rfl, rfl⟩ rfl ?_
    refine Ev_st rfl (rfl : _ = ask3 σ b i (S b i)) ?_
    refine Ev_aload rfl rfl rfl ?_
    refine Ev_const rfl ?_
    refine Ev_callV rfl rfl rfl rfl rfl (same_n 402) (m_codesTell (R := 0) _ hρ (hR.sc (ask3_sc σ b i (S b i))) (hF.sc (ask3_sc σ b i (S b i))) hW hWt hbd hWb hh (Nat.zero_le 9) h99 (k := 2) (by decide) hf hty (by decide) (ask3_see (tide := 0) hR.2.2.2.2 hb hi)) ?_
    rintro v36 ρ36 σ36 ⟨rfl, e36, hsc⟩
    obtain rfl := e36.symm
    refine Ev_const rfl ?_
    refine Ev_const rfl ?_
    refine Ev_callS rfl rfl rfl rfl (same_n 402) (m_cut _ _ _ _) ?_
    rintro v42 ρ42 σ42 ⟨rfl, e42, g42⟩
    obtain rfl := e42.symm
    obtain rfl := g42.symm
    refine Ev_norm (cut_btw (lo := 0) (hi := 99) rfl (Bd_Bl hz.1) (by decide) (by decide) : _ = nI (btw 0 99 _)) ?_
    exact Ev_ireturn rfl rfl rfl rfl ⟨by unfold fdM cod; rw [hf, hcg], rfl, (ask3_sc σ b i (S b i)).tr hsc⟩
  · refine Ev_iload rfl rfl ?_
    refine Ev_const rfl ?_
    refine Ev_isub rfl ?_
    refine Ev_norm (pk_sub (a := S b i) (b := 1) (by omega) : _ = nI (S b i - 1)) ?_
    exact Ev_ireturn rfl rfl rfl rfl ⟨by
    have hf : frm B 2 = none := by
      cases hf : frm B 2 with
      | none => rfl
      | some cs => rw [hf] at h12; exact absurd (by decide : ¬ bI true = 0) h12
    unfold fdM cod
    rw [hf]
    show _ = some (Value.int (nI (btw 0 99 (evF _ (unt 2)))))
    rw [fd_unt, two37]
    show _ = some (Value.int (nI (btw 0 99 (clip ((S b i : Nat) - 1 : Int)))))
    rw [clip_id ⟨by omega, by omega⟩]
    unfold btw
    rw [if_neg (by omega), if_neg (by omega), show (((S b i : Nat) : Int) - 1).toNat = S b i - 1 by omega], rfl, MSc.rf _⟩
end S36
