/-! One bather fades, to the end: the reference. -/
theorem T.mono {l : Launch} {X : Cx} {d i : Nat} {as : List Value} {n n1 : Nat} {ρ : Rf} {σ : St} {Q Q' : Po} (h : T l X d i as n n1 ρ σ Q) (hq : ∀ v ρ σ, Q v ρ σ → Q' v ρ σ) : T l X d i as n n1 ρ σ Q' := by
  unfold T Met at h ⊢
  refine MetFree.mono h (fun _ _ h => h) (fun _ _ _ _ _ h => h) (fun a s o s' _ h => ?_)
  obtain ⟨⟨⟨v, ρ, σ, h1, h2, h3⟩, h4⟩, h5⟩ := h
  exact ⟨⟨⟨v, ρ, σ, h1, hq _ _ _ h2, h3⟩, h4⟩, h5⟩
theorem MNum.mf {C Fd : Nat → Bool} {σ σ' : St} {B : Bh} (H : MNum σ B) (hs : MF C Fd σ σ') (hC : C 356 = false) : MNum σ' B := fun q hq => by
  rw [hs.1 356 (by decide) hC]; exact H q hq
theorem MTab.mf {C Fd : Nat → Bool} {σ σ' : St} {B : Bh} (H : MTab σ B) (hs : MF C Fd σ σ') (hC : (C 358 || C 359 || C 360) = false) : MTab σ' B := by
  simp only [Bool.or_eq_false_iff] at hC
  obtain ⟨⟨c2, c3⟩, c4⟩ := hC
  refine ⟨fun i hi => ?_, fun b hb => ?_⟩
  · rw [hs.1 358 (by decide) c2, hs.1 359 (by decide) c3]; exact H.1 i hi
  · rw [hs.1 360 (by decide) c4]; exact H.2 b hb
theorem MWit.mf {C Fd : Nat → Bool} {σ σ' : St} {B : Bh} {W : Nat → Nat} (H : MWit σ B W) (hs : MF C Fd σ σ') (hC : C 360 = false) (hF : (Fd 53 || Fd 54) = false) : MWit σ' B W := by
  simp only [Bool.or_eq_false_iff] at hF
  intro b hb
  rw [hs.2.2 53 hF.1, hs.2.2 54 hF.2, hs.1 360 (by decide) hC]; exact H b hb
/-- what is read, the strengths and the hour told anew -/
theorem MRd.mfn {C Fd : Nat → Bool} {σ σ' : St} {B : Bh} {S S' : Str} {W : Nat → Nat} {h h' : Nat} (H : MRd σ B S W h) (hs : MF C Fd σ σ') (hC : (C 356 || C 358 || C 359 || C 360) = false) (hF : (Fd 53 || Fd 54) = false) (hS : MStr σ' S') (h0 : σ'.1 365 0 = nI h') : MRd σ' B S' W h' := by
  simp only [Bool.or_eq_false_iff] at hC
  obtain ⟨⟨⟨c1, c2⟩, c3⟩, c4⟩ := hC
  exact ⟨H.1.mf hs c1, H.2.1.mf hs (by rw [c2, c3, c4]; rfl), hS, H.2.2.2.1.mf hs c4 hF, h0⟩
section S39
variable {l : Launch} {X : Cx} {ρ : Rf} {B : Bh} {S : Str} {W : Nat → Nat}
theorem fb_loop {d : Nat} {b : Nat} {but : Int32} (hρ : RF ρ) (hW : WfN B) (hb : b < nb B) (g : Nat → Nat) (σ0 : St) : ∀ (m k : Nat) (σ : St), k + m = ni B → MF cAN fS σ0 σ → MNum σ B → (∀ i, i < ni B → σ.1 368 i = nI (g i)) → (∀ i, i < k → σ.1 365 (1 + 8 * b + i) = nI (g i)) → (∀ j, ¬ (1 + 8 * b ≤ j ∧ j < 1 + 8 * b + k) → σ.1 365 j = σ0.1 365 j) →
    Ev l X (d + 6) 210 53 [.ref 326, .int (nI b), .int but, .int (nI k)] [] 402 402 402 ρ σ (fun v ρ' σ' => v = none ∧ ρ' = ρ ∧ MF cAN fS σ0 σ' ∧ (∀ i, i < ni B → σ'.1 365 (1 + 8 * b + i) = nI (g i)) ∧ ∀ j, ¬ (1 + 8 * b ≤ j ∧ j < 1 + 8 * b + ni B) → σ'.1 365 j = σ0.1 365 j) := by
  have h8 := hW.1
  have h6 := hW.2.1
  intro m
  induction m with
  | zero =>
    intro k σ hk hs hN ha hg hj
    have hk : k = ni B := by omega
    subst hk
    refine Ev_iload rfl rfl ?_
    refine Ev_aload rfl rfl rfl ?_
    refine Ev_callV rfl rfl rfl rfl rfl (same_n 402) (m_ideaMany _ hρ hN) ?_
    rintro v55 ρ55 σ55 ⟨rfl, e55, g55⟩
    obtain rfl := e55.symm
    obtain rfl := g55.symm
    refine Ev_icmp_ge rfl (fun h58 => ?_) (fun h58 => absurd (nI_le (by omega) (by omega)) h58)
    exact Ev_return rfl rfl rfl ⟨rfl, rfl, hs, hg, hj⟩
  | succ m ih =>
    intro k σ hk hs hN ha hg hj
    refine Ev_iload rfl rfl ?_
    refine Ev_aload rfl rfl rfl ?_
    refine Ev_callV rfl rfl rfl rfl rfl (same_n 402) (m_ideaMany _ hρ hN) ?_
    rintro v55 ρ55 σ55 ⟨rfl, e55, g55⟩
    obtain rfl := e55.symm
    obtain rfl := g55.symm
    refine Ev_icmp_ge rfl (fun h58 => absurd h58 (nI_ge (by omega) (by omega))) (fun h58 => ?_)
    refine Ev_aload rfl rfl rfl ?_
    refine Ev_getR rfl (by first | rfl | assumption) (hρ _ _ _ rfl) ?_
    refine Ev_const rfl ?_
    refine Ev_const rfl ?_
    refine Ev_iload rfl rfl ?_
    refine Ev_imul rfl ?_
    refine Ev_norm (pk_mul 8 b) ?_
    refine Ev_iadd rfl ?_
    refine Ev_norm (nI_add 1 (8 * b)) ?_
    refine Ev_iload rfl rfl ?_
    refine Ev_iadd rfl ?_
    refine Ev_norm (nI_add (1 + 8 * b) k) ?_
    refine Ev_aload rfl rfl rfl ?_
    refine Ev_getR rfl (by first | rfl | assumption) (hρ _ _ _ rfl) ?_
    refine Ev_iload rfl rfl ?_
    refine Ev_iald rfl (by first | rfl | assumption) (vp_in_nI (n := k) (show k < 8 by omega) (by decide)) ?_
    refine Ev_norm (by rw [nI_clamp (by omega)]; exact ha k (by omega) : _ = nI (g k)) ?_
    refine Ev_iast rfl (by first | rfl | assumption) (vp_in_nI (n := 1 + 8 * b + k) (show 1 + 8 * b + k < 242 by omega) (by decide)) ?_
    refine Ev_iincE rfl rfl (nI_1 k) ?_
    refine Ev_goto rfl ?_
    rw [nI_clamp (by omega)]
    have hm : MF cAN fS σ (sI σ 365 (upd (σ.1 365) (1 + 8 * b + k) (nI (g k)))) := MF.cell _ (by decide) rfl
    refine ih (k + 1) _ (by omega) (hs.tr hm) (hN.mf hm rfl) (fun i hi => by rw [sR_1 _ _ (by decide)]; exact ha i hi) (fun i hi => ?_) (fun j hj2 => ?_)
    · rw [sR_0]
      by_cases hik : i = k
      · subst hik; rw [pk_us]
      · rw [pk_un (by omega)]; exact hg i (by omega)
    · rw [sR_0, pk_un (by omega)]; exact hj j (by omega)
theorem m_fade (d : Nat) {h b : Nat} {but : Int32} {σ : St} (hρ : RF ρ) (hR : MRd σ B S W h) (hF : MFrm σ B) (hW : WfN B) (hWt : WfT B) (hWf : WfF B) (hbd : ∀ b i, S b i ≤ 99) (hWb : ∀ b, W b ≤ 9) (hh : h ≤ 2000) (hb : b < nb B) :
    T l X (d + 6) 210 [.ref 326, .int (nI b), .int but] 402 402 ρ σ (fun v ρ' σ' => v = none ∧ ρ' = ρ ∧ MF cAN fS σ σ' ∧ (∀ i, i < ni B → σ'.1 365 (1 + 8 * b + i) = nI (fadR B (S b) b (W b) h but i)) ∧ ∀ j, ¬ (1 + 8 * b ≤ j ∧ j < 1 + 8 * b + ni B) → σ'.1 365 j = σ.1 365 j) := by
  refine T_of rfl ?_
  refine Ev_const rfl ?_
  refine Ev_istore rfl ?_
  refine fa_loop hρ hW hWt hWf hbd hWb hh hb σ (fun σ1 hs ha => ?_) (ni B) 0 σ (by omega) (MF.rf _ _ _) (fun i hi => absurd hi (Nat.not_lt_zero i)) hR hF
  have hs2 : MF cAN fS σ σ1 := hs.wk (fun q hq => by unfold cAN at hq; rw [Bool.or_eq_false_iff] at hq; exact hq.1) (fun _ q => q)
  refine Ev_const rfl ?_
  refine Ev_istore rfl ?_
  exact fb_loop hρ hW hb _ σ (ni B) 0 σ1 (by omega) hs2 (hR.1.mf hs2 rfl) ha (fun i hi => absurd hi (Nat.not_lt_zero i)) (fun j _ => by rw [hs.1 365 (by decide) rfl])
end S39
