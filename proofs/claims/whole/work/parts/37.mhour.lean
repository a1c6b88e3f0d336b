/-! All that are ready, an hour: the reference. -/
def rset (B : Bh) (row : Nat → Nat) (b w h tide : Nat) : Nat := kset (ni B) (fun i => bif rdM B row b w h tide i then 1 else 0)
theorem kset_s0 {n : Nat} {f : Nat → Nat} (h : f n = 0) : kset (n + 1) f = kset n f := by
  show kset n f + (if 0 < f n then 2 ^ n else 0) = _
  rw [if_neg (by omega), Nat.add_zero]
theorem kset_s1 {n : Nat} {f : Nat → Nat} (h : 0 < f n) : kset (n + 1) f = kset n f + 2 ^ n := by
  show kset n f + (if 0 < f n then 2 ^ n else 0) = _
  rw [if_pos h]
section S37
variable {l : Launch} {X : Cx} {ρ : Rf} {B : Bh} {S : Str} {W : Nat → Nat}
theorem rs_loop {d : Nat} {h tide b : Nat} (hρ : RF ρ) (hW : WfN B) (hWt : WfT B) (hWf : WfF B) (hbd : ∀ b i, S b i ≤ 99) (hWb : ∀ b, W b ≤ 9) (hh : h ≤ 2000) (ht9 : tide ≤ 9) (hb : b < nb B) (σ0 : St) : ∀ (m k : Nat) (σ : St), k + m = ni B → MSc σ0 σ → MRd σ B S W h → MFrm σ B → σ.1 326 58 = nI tide →
    Ev l X (d + 6) 207 4 [.ref 326, .int (nI b), .int (nI (kset k (fun i => bif rdM B (S b) b (W b) h tide i then 1 else 0))), .int (nI k)] [] 402 402 402 ρ σ (fun v ρ' σ' => v = some (.int (nI (rset B (S b) b (W b) h tide))) ∧ ρ' = ρ ∧ MSc σ0 σ') := by
  have h8 := hW.1
  intro m
  induction m with
  | zero =>
    intro k σ hk hs hR hF hti
    refine Ev_iload rfl rfl ?_
    refine Ev_aload rfl rfl rfl ?_
    refine Ev_callV rfl rfl rfl rfl rfl (same_n 402) (m_ideaMany _ hρ hR.1) ?_
    rintro v6 ρ6 σ6 ⟨rfl, e6, g6⟩
    obtain rfl := e6.symm
    obtain rfl := g6.symm
    refine Ev_icmp_ge rfl (fun h9 => ?_) (fun h9 => absurd (nI_le (by omega) (by omega)) h9)
    refine Ev_iload rfl rfl ?_
    exact Ev_ireturn rfl rfl rfl rfl ⟨by unfold rset; rw [show k = ni B by omega], rfl, hs⟩
  | succ m ih =>
    intro k σ hk hs hR hF hti
    refine Ev_iload rfl rfl ?_
    refine Ev_aload rfl rfl rfl ?_
    refine Ev_callV rfl rfl rfl rfl rfl (same_n 402) (m_ideaMany _ hρ hR.1) ?_
    rintro v6 ρ6 σ6 ⟨rfl, e6, g6⟩
    obtain rfl := e6.symm
    obtain rfl := g6.symm
    refine Ev_icmp_ge rfl (fun h9 => absurd h9 (nI_ge (by omega) (by omega))) (fun h9 => ?_)
    refine Ev_aload rfl rfl rfl ?_
    refine Ev_iload rfl rfl ?_
    refine Ev_iload rfl rfl ?_
    refine Ev_callV rfl rfl rfl rfl rfl (same_n 402) (m_isReady _ hρ hR hF hW hWt hWf hbd hWb hh hti ht9 hb (by omega)) ?_
    rintro v15 ρ15 σ15 ⟨rfl, e15, hsc⟩
    obtain rfl := e15.symm
    refine Ev_if_eq rfl (fun h18 => ?_) (fun h18 => ?_)
    · refine Ev_iincE rfl rfl (nI_1 k) ?_
      refine Ev_goto rfl ?_
      have e : kset (k + 1) (fun i => bif rdM B (S b) b (W b) h tide i then 1 else 0) = kset k (fun i => bif rdM B (S b) b (W b) h tide i then 1 else 0) := by
        have hf : rdM B (S b) b (W b) h tide k = false := by
          cases hq : rdM B (S b) b (W b) h tide k
          · rfl
          · rw [hq] at h18; exact absurd h18 (by decide)
        exact kset_s0 (by show (bif rdM B (S b) b (W b) h tide k then 1 else 0) = 0; rw [hf]; rfl)
      have := ih (k + 1) σ15 (by omega) (hs.tr hsc) (hR.sc hsc) (hF.sc hsc) (by rw [hsc.2.2 58 rfl]; exact hti)
      rw [e] at this
      exact this
    · refine Ev_iload rfl rfl ?_
      refine Ev_const rfl ?_
      refine Ev_iload rfl rfl ?_
      refine Ev_ishl rfl ?_
      refine Ev_ior rfl ?_
      refine Ev_norm (set_bit (kset_lt k _) (by omega)) ?_
      refine Ev_istore rfl ?_
      refine Ev_iincE rfl rfl (nI_1 k) ?_
      refine Ev_goto rfl ?_
      have e : kset (k + 1) (fun i => bif rdM B (S b) b (W b) h tide i then 1 else 0) = kset k (fun i => bif rdM B (S b) b (W b) h tide i then 1 else 0) + 2 ^ k := by
        exact kset_s1 (by show 0 < (bif rdM B (S b) b (W b) h tide k then 1 else 0); rw [rt_of h18]; exact Nat.zero_lt_one)
      have := ih (k + 1) σ15 (by omega) (hs.tr hsc) (hR.sc hsc) (hF.sc hsc) (by rw [hsc.2.2 58 rfl]; exact hti)
      rw [e] at this
      exact this
theorem m_readySet (d : Nat) {σ : St} {h tide b : Nat} (hρ : RF ρ) (hR : MRd σ B S W h) (hF : MFrm σ B) (hW : WfN B) (hWt : WfT B) (hWf : WfF B) (hbd : ∀ b i, S b i ≤ 99) (hWb : ∀ b, W b ≤ 9) (hh : h ≤ 2000) (hti : σ.1 326 58 = nI tide) (ht9 : tide ≤ 9) (hb : b < nb B) :
    T l X (d + 6) 207 [.ref 326, .int (nI b)] 402 402 ρ σ (fun v ρ' σ' => v = some (.int (nI (rset B (S b) b (W b) h tide))) ∧ ρ' = ρ ∧ MSc σ σ') := by
  refine T_of rfl ?_
  refine Ev_const rfl ?_
  refine Ev_istore rfl ?_
  refine Ev_const rfl ?_
  refine Ev_istore rfl ?_
  exact rs_loop hρ hW hWt hWf hbd hWb hh ht9 hb σ (ni B) 0 σ (by omega) (MSc.rf σ) hR hF hti
end S37
