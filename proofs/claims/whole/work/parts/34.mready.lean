/-! Who is ready, by which strength he keeps: the reference. -/
def rdM (B : Bh) (row : Nat → Nat) (b w h tide i : Nat) : Bool := decide (dep B i ≤ tide) && (rtd B (kset (ni B) row) i && !(decide (evF (fun s => ((seeF B row b w h tide i 0 0 s : Nat) : Int)) (cod B 3) = 0)))
def kpM (B : Bh) (row : Nat → Nat) (b w h tide i : Nat) : Nat := btw 1 99 (evF (fun s => ((seeF B row b w h tide i 0 0 s : Nat) : Int)) (cod B 1))
def ask2 (σ : St) (b i : Nat) : St := sI (sI σ 326 (upd (σ.1 326) 55 (nI b))) 326 (upd ((sI σ 326 (upd (σ.1 326) 55 (nI b))).1 326) 56 (nI i))
theorem ask2_sc (σ : St) (b i : Nat) : MSc σ (ask2 σ b i) := (MSc.put σ (nI b) rfl).tr (MSc.put _ (nI i) rfl)
theorem ask2_see {σ : St} {B : Bh} {h tide k b i : Nat} (h0 : σ.1 365 0 = nI h) (ht : σ.1 326 58 = nI tide) (hk : k ≠ 2) (hb : b < nb B) (hi : i < ni B) : MSee (ask2 σ b i) B h tide k b i 0 := by
  refine ⟨?_, fun _ => ?_, fun _ => ⟨?_, hb⟩, fun _ => ⟨?_, hi⟩, fun q => absurd q hk⟩
  · rw [(ask2_sc σ b i).1 365 (by decide)]; exact h0
  · rw [(ask2_sc σ b i).2.2 58 rfl]; exact ht
  · unfold ask2; rw [sR_0, pk_un (by decide), sR_0, pk_us]
  · unfold ask2; rw [sR_0, pk_us]
theorem rt_of {b : Bool} (h : ¬ bI b = 0) : b = true := by
  cases b
  · exact absurd rfl h
  · rfl
section S34
variable {l : Launch} {X : Cx} {ρ : Rf} {σ : St} {B : Bh} {S : Str} {W : Nat → Nat}
theorem m_isReady (d : Nat) {h tide b i : Nat} (hρ : RF ρ) (hR : MRd σ B S W h) (hF : MFrm σ B) (hW : WfN B) (hWt : WfT B) (hWf : WfF B) (hbd : ∀ b i, S b i ≤ 99) (hWb : ∀ b, W b ≤ 9) (hh : h ≤ 2000) (hti : σ.1 326 58 = nI tide) (ht9 : tide ≤ 9) (hb : b < nb B) (hi : i < ni B) :
    T l X (d + 5) 206 [.ref 326, .int (nI b), .int (nI i)] 402 402 ρ σ (fun v ρ' σ' => v = some (.int (bI (rdM B (S b) b (W b) h tide i))) ∧ ρ' = ρ ∧ MSc σ σ') := by
  have h8 := hW.1
  have h6 := hW.2.1
  have hd9 := (hWt.1 i hi).1
  refine T_of rfl ?_
  refine Ev_aload rfl rfl rfl ?_
  refine Ev_getR rfl (by first | rfl | assumption) (hρ _ _ _ rfl) ?_
  refine Ev_const rfl ?_
  refine Ev_iload rfl rfl ?_
  refine Ev_iadd rfl ?_
  refine Ev_norm (nI_add 8 i) ?_
  refine Ev_iald rfl (by first | rfl | assumption) (vp_in_nI (n := 8 + i) (show 8 + i < 16 by omega) (by decide)) ?_
  refine Ev_norm (by rw [nI_clamp (by omega)]; exact (hR.2.1.1 i hi).1 : _ = nI (dep B i)) ?_
  refine Ev_aload rfl rfl rfl ?_
  refine Ev_getI rfl (by first | rfl | assumption) ?_
  refine Ev_norm hti ?_
  refine Ev_icmp_gt rfl (fun h13 => ?_) (fun h13 => ?_)
  · refine Ev_const rfl ?_
    exact Ev_ireturn rfl rfl rfl rfl ⟨by
    have h13' := (nI_ltI (by omega) (by omega)).mp h13
    unfold rdM
    rw [decide_eq_false (by omega)]
    rfl, rfl, MSc.rf _⟩
  · refine Ev_aload rfl rfl rfl ?_
    refine Ev_iload rfl rfl ?_
    refine Ev_iload rfl rfl ?_
    refine Ev_callV rfl rfl rfl rfl rfl (same_n 402) (m_isRooted _ hρ hR.1 hW hR.2.1 hR.2.2.1 (hbd b) (by omega) hi) ?_
    rintro v19 ρ19 σ19 ⟨rfl, e19, g19⟩
    obtain rfl := e19.symm
    obtain rfl := g19.symm
    refine Ev_if_ne rfl (fun h22 => ?_) (fun h22 => ?_)
    · refine Ev_aload rfl rfl rfl ?_
      refine Ev_const rfl ?_
      refine Ev_callV rfl rfl rfl rfl rfl (same_n 402) (m_isTold _ hρ hF (k := 3) (by decide)) ?_
      rintro v29 ρ29 σ29 ⟨rfl, e29, g29⟩
      obtain rfl := e29.symm
      obtain rfl := g29.symm
      refine Ev_if_ne rfl (fun h32 => ?_) (fun h32 => ?_)
      · obtain ⟨cs, hf⟩ : ∃ cs, frm B 3 = some cs := by cases hf : frm B 3 with | none => (rw [hf] at h32; exact absurd rfl h32) | some cs => exact ⟨cs, rfl⟩
        obtain ⟨hlen, hty⟩ := hWf 3 (by decide) cs hf
        have h13' : dep B i ≤ tide := Nat.le_of_not_lt (fun q => h13 ((nI_ltI (by omega) (by omega)).mpr q))
        have hz := evF_ok hty (see := fun s => ((seeF B (S b) b (W b) h tide i 0 0 s : Nat) : Int)) (fun s hs ho => seeBd hWt (hWb b) hh ht9 (by decide) (by decide) (fun _ => hb) hW.2.1 (fun _ => hi) hs ho) (fun q => absurd q (by decide))
        refine Ev_aload rfl rfl rfl ?_
        refine Ev_iload rfl rfl ?_
        refine Ev_putI rfl (by first | rfl | assumption) ⟨rfl, rfl⟩ rfl ?_
        refine Ev_aload rfl rfl rfl ?_
        refine Ev_iload rfl rfl ?_
        refine Ev_putI rfl (by first | rfl | assumption) ⟨rfl, rfl⟩ rfl ?_
        refine Ev_st rfl (rfl : _ = ask2 σ b i) ?_
        refine Ev_aload rfl rfl rfl ?_
        refine Ev_const rfl ?_
        refine Ev_callV rfl rfl rfl rfl rfl (same_n 402) (m_codesTell (R := 0) _ hρ (hR.sc (ask2_sc σ b i)) (hF.sc (ask2_sc σ b i)) hW hWt hbd hWb hh ht9 (v := 0) (by decide) (k := 3) (by decide) hf hty (by decide) (ask2_see hR.2.2.2.2 hti (by decide) hb hi)) ?_
        rintro v49 ρ49 σ49 ⟨rfl, e49, hsc⟩
        obtain rfl := e49.symm
        refine Ev_constL rfl ?_
        refine Ev_lcmp rfl ?_
        refine Ev_if_ne rfl (fun h54 => ?_) (fun h54 => ?_)
        · refine Ev_const rfl ?_
          exact Ev_ireturn rfl rfl rfl rfl ⟨by
          have h0 : evF (fun s => ((seeF B (S b) b (W b) h tide i 0 0 s : Nat) : Int)) cs = 0 := (hz.2 rfl).elim id (fun q => absurd ((c_eq (b := 1) (Bd_Bl hz.1) (by decide)).mpr q) h54)
          unfold rdM cod
          rw [hf]
          simp only [h0, decide_true, Bool.not_true, Bool.and_false]
          rfl, rfl, (ask2_sc σ b i).tr hsc⟩
        · refine Ev_const rfl ?_
          refine Ev_goto rfl ?_
          exact Ev_ireturn rfl rfl rfl rfl ⟨by
          have h1 : evF (fun s => ((seeF B (S b) b (W b) h tide i 0 0 s : Nat) : Int)) cs = 1 := (c_eq (b := 1) (Bd_Bl hz.1) (by decide)).mp (Decidable.not_not.mp h54)
          unfold rdM cod
          rw [rt_of h22, hf, decide_eq_true h13']
          simp only [h1]
          rfl, rfl, (ask2_sc σ b i).tr hsc⟩
      · refine Ev_const rfl ?_
        exact Ev_ireturn rfl rfl rfl rfl ⟨by
        have h13' : dep B i ≤ tide := Nat.le_of_not_lt (fun q => h13 ((nI_ltI (by omega) (by omega)).mpr q))
        have hf : frm B 3 = none := by
          cases hf : frm B 3 with
          | none => rfl
          | some cs => rw [hf] at h32; exact absurd (by decide : ¬ bI true = 0) h32
        unfold rdM cod
        rw [rt_of h22, hf, decide_eq_true h13']
        rfl, rfl, MSc.rf _⟩
    · refine Ev_const rfl ?_
      exact Ev_ireturn rfl rfl rfl rfl ⟨by
      have e : rtd B (kset (ni B) (S b)) i = false := by
        cases hq : rtd B (kset (ni B) (S b)) i
        · rfl
        · rw [hq] at h22; exact absurd (by decide) h22
      unfold rdM
      rw [e, Bool.false_and, Bool.and_false]
      rfl, rfl, MSc.rf _⟩
end S34
