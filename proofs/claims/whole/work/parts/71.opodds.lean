/-! lasts, odds: the calls. -/
def lsS (B : Bh) (S : Str) (x h j : Nat) : Str := fun b => if b = x then fdI B x (wit B x) h j (S x) else S b
theorem lsS_x (B : Bh) (S : Str) (x h j : Nat) : lsS B S x h j x = fdI B x (wit B x) h j (S x) := if_pos rfl
theorem lsS_w {B : Bh} {S : Str} {x h j : Nat} (hS : WfS B S) : ∀ b i, lsS B S x h j b i ≤ 99 := by
  intro b i
  unfold lsS
  by_cases hb : b = x
  · rw [if_pos hb]; exact (fdI_w (hS.row x) j).1 i
  · rw [if_neg hb]; exact (hS b i).1
/-- a bather fades, the hour is one more: still in thought -/
theorem MTh.fd {σ0 σ σ1 : St} {B : Bh} {S S' : Str} {W : Nat → Nat} {h x : Nat} {P : Nat → Nat} (hW : WfN B) (hx : x < nb B) (H : MTh σ0 B S W h P σ) (hs : MF cAN fS σ σ1) (hr : ∀ i, i < ni B → σ1.1 363 (1 + 8 * x + i) = nI (S' x i)) (hj : ∀ j, ¬ (1 + 8 * x ≤ j ∧ j < 1 + 8 * x + ni B) → σ1.1 363 j = σ.1 363 j) (h1 : ∀ b, b ≠ x → S' b = S b) (h2 : ∀ i, ni B ≤ i → S' x i = S x i) : MTh σ0 B S' W (h + 1) P (sI σ1 363 (upd (σ1.1 363) 0 (nI (h + 1)))) := by
  obtain ⟨g1, g2, g3, g4, g5, g6, g7⟩ := H
  have n16 := hW.2.2.2.1
  have n8 := hW.1
  have n6 := hW.2.1
  have m1 : MF cAN fH σ σ1 := hs.wk (fun _ q => q) fS_fH
  have m2 : MF cAN fH σ1 (sI σ1 363 (upd (σ1.1 363) 0 (nI (h + 1)))) := MF.cell _ (by decide) rfl
  have m3 := m1.tr m2
  refine ⟨g1.tr (mf_ti m3), g2.mfn m3 rfl rfl (fun b i hb hi => ?_) (by rw [sR_0, pk_us]), fun j hq => ?_, by rw [m3.2.2 _ rfl]; exact g4, fun j hq => ?_, fun j hq => by rw [m3.1 364 (by decide) rfl]; exact g6 j hq, g7.ti (mf_ti m3)⟩
  · rw [sR_0, pk_un (by omega)]
    by_cases hbx : b = x
    · subst hbx
      by_cases hin : i < ni B
      · exact hr i hin
      · rw [hj _ (by omega), h2 i (by omega)]; exact g2.2.2.1 b i hb hi
    · rw [hj _ (by omega), h1 b hbx]; exact g2.2.2.1 b i hb hi
  · rw [sR_0, pk_un (by omega), hj _ (by omega)]; exact g3 j hq
  · rw [sR_0, pk_un (by omega), hj _ (by omega)]; exact g5 j hq
section S71
variable {l : Launch} {X : Cx}
theorem mls_loop {d x y N : Nat} {ρ : Rf} {A : Ab} {σ0 : St} {Q : Po} (hM : RM ρ σ0 A) (hA : WfA A) (hx : x < nb (aB A)) (hy : y < ni (aB A)) (hN : N = most60 (aN A).1 60) {R : Nat}
    (hQ : ∀ σ S h, ∀ w, MTh σ0 (aB A) S (wit (aB A)) h (aN A).2.2.1 σ → Ev l X (d + 7) 240 90 [.ref 324, .int (nI x), .int (nI y), .int (nI R), w] [] 400 400 400 ρ σ Q) :
    ∀ (m j n : Nat) (σ : St), j + m = N → MTh σ0 (aB A) (lsS (aB A) (aN A).2.1 x (aN A).1 j) (wit (aB A)) ((aN A).1 + j) (aN A).2.2.1 σ → ((fdI (aB A) x (wit (aB A) x) (aN A).1 j ((aN A).2.1 x) y ≠ 0 ∧ n = j ∧ R = lstK (fun n => fdI (aB A) x (wit (aB A) x) (aN A).1 n ((aN A).2.1 x) y) m j) ∨ (fdI (aB A) x (wit (aB A) x) (aN A).1 j ((aN A).2.1 x) y = 0 ∧ R = n)) →
    Ev l X (d + 7) 240 37 [.ref 324, .int (nI x), .int (nI y), .int (nI n), .int (nI (j + 1))] [] 400 400 400 ρ σ Q := by
  have hW := hA.1.1
  have hWt := hA.1.2.1
  have hWf := hA.1.2.2.1
  have n8 := hW.1
  have n6 := hW.2.1
  have nh := hA.2.1.1
  have hSw := hA.2.1.2.1
  have hN60 : N ≤ 60 ∧ (aN A).1 + N ≤ 999 ∧ (N = 60 ∨ (aN A).1 + N = 999) := by rw [hN]; unfold most60; split <;> omega
  have hρ := hM.1
  intro m
  induction m with
  | zero =>
    intro j n σ hj hT hf
    have hj : j = N := by omega
    subst hj
    have hn : n = R := by
      rcases hf with ⟨_, h2, h3⟩ | ⟨_, h2⟩
      · rw [h3, h2]; rfl
      · exact h2.symm
    subst hn
    refine Ev_iload rfl rfl ?_
    refine Ev_const rfl ?_
    refine Ev_icmp_gt rfl (fun h41 => ?_) (fun h41 => ?_)
    · exact hQ σ _ _ _ hT
    · refine Ev_aload rfl rfl rfl ?_
      refine Ev_getR rfl (by first | rfl | assumption) (hρ _ _ _ rfl) ?_
      refine Ev_const rfl ?_
      refine Ev_iald rfl (by first | rfl | assumption) (vp_in_nI (n := 0) (by decide) (by decide)) ?_
      refine Ev_norm hT.2.1.2.2.2.2 ?_
      refine Ev_const rfl ?_
      refine Ev_icmp_ge rfl (fun h53 => ?_) (fun h53 => absurd (nI_le (a := 999) (b := (aN A).1 + j) (by have : ¬ 60 < j + 1 := fun z => h41 (nI_lt (a := 60) z (by omega)); omega) (by omega)) h53)
      exact hQ σ _ _ _ hT
  | succ m ih =>
    intro j n σ hj hT hf
    have hle := lsS_w (B := aB A) (S := (aN A).2.1) (x := x) (h := (aN A).1) (j := j) hSw
    have hw8 := fdI_w (b := x) (w := wit (aB A) x) (h := (aN A).1) (hSw.row x) j
    have h99 := (fdI_w (b := x) (w := wit (aB A) x) (h := (aN A).1) (hSw.row x) (j + 1)).1 y
    have hS1 : ∀ i, fadR (aB A) (lsS (aB A) (aN A).2.1 x (aN A).1 j x) x (wit (aB A) x) ((aN A).1 + j) (-1) i = lsS (aB A) (aN A).2.1 x (aN A).1 (j + 1) x i := fun i => by rw [lsS_x, lsS_x]; rfl
    have hzz : fdI (aB A) x (wit (aB A) x) (aN A).1 j ((aN A).2.1 x) y = 0 → fdI (aB A) x (wit (aB A) x) (aN A).1 (j + 1) ((aN A).2.1 x) y = 0 := fun z => fadR_0 z
    refine Ev_iload rfl rfl ?_
    refine Ev_const rfl ?_
    refine Ev_icmp_gt rfl (fun h41 => absurd h41 (nI_nlt (a := 60) (b := j + 1) (by omega) (by decide))) (fun h41 => ?_)
    refine Ev_aload rfl rfl rfl ?_
    refine Ev_getR rfl (by first | rfl | assumption) (hρ _ _ _ rfl) ?_
    refine Ev_const rfl ?_
    refine Ev_iald rfl (by first | rfl | assumption) (vp_in_nI (n := 0) (by decide) (by decide)) ?_
    refine Ev_norm hT.2.1.2.2.2.2 ?_
    refine Ev_const rfl ?_
    refine Ev_icmp_ge rfl (fun h53 => absurd h53 (nI_ge (b := 999) (by omega) (by decide))) (fun h53 => ?_)
    refine Ev_aload rfl rfl rfl ?_
    refine Ev_iload rfl rfl ?_
    refine Ev_const rfl ?_
    refine Ev_callV rfl rfl rfl rfl rfl (same_n 400) (m_fade _ hρ (MRd.sc hT.2.1 (MSc.rf σ)) hT.2.2.2.2.2.2 hW hWt hWf hle (wf9 hA) (by omega) hx) ?_
    rintro v59 ρ59 σ59 ⟨rfl, e59, f1, f2, f3⟩
    obtain rfl := e59.symm
    refine Ev_aload rfl rfl rfl ?_
    refine Ev_getR rfl (by first | rfl | assumption) (hρ _ _ _ rfl) ?_
    refine Ev_const rfl ?_
    refine Ev_dup2 rfl (fun _ q => nomatch q) (fun _ q => nomatch q) ?_
    refine Ev_iald rfl (by first | rfl | assumption) (vp_in_nI (n := 0) (by decide) (by decide)) ?_
    refine Ev_norm (by rw [f3 _ (by show ¬ (1 + 8 * x ≤ 0 ∧ _); omega)]; exact hT.2.1.2.2.2.2 : _ = nI ((aN A).1 + j)) ?_
    refine Ev_const rfl ?_
    refine Ev_iadd rfl ?_
    refine Ev_norm (nI_1 _) ?_
    refine Ev_iast rfl (by first | rfl | assumption) (vp_in_nI (n := 0) (by decide) (by decide)) ?_
    have hT2 := hT.fd (S' := lsS (aB A) (aN A).2.1 x (aN A).1 (j + 1)) hW hx f1 (fun i hi => by rw [f2 i hi, hS1]) f3 (fun b hb => by unfold lsS; rw [if_neg hb, if_neg hb]) (fun i hi => by rw [lsS_x, lsS_x, hw8.2 i hi]; exact fadR_0 (hw8.2 i hi))
    refine Ev_aload rfl rfl rfl ?_
    refine Ev_iload rfl rfl ?_
    refine Ev_iload rfl rfl ?_
    refine Ev_callV rfl rfl rfl rfl rfl (same_n 400) (m_strengthOf _ hρ hT2.2.1.2.2.1 (by omega) (by omega)) ?_
    rintro v75 ρ75 σ75 ⟨rfl, e75, g75⟩
    obtain rfl := e75.symm
    obtain rfl := g75.symm
    refine Ev_norm (by rw [lsS_x] : _ = nI (fdI (aB A) x (wit (aB A) x) (aN A).1 (j + 1) ((aN A).2.1 x) y)) ?_
    refine Ev_if_le rfl (fun h78 => ?_) (fun h78 => ?_)
    · refine Ev_iincE rfl rfl (nI_1 _) ?_
      refine Ev_goto rfl ?_
      have hz : fdI (aB A) x (wit (aB A) x) (aN A).1 (j + 1) ((aN A).2.1 x) y = 0 := Decidable.byContradiction fun z => absurd h78 (nI_nle (Nat.pos_of_ne_zero z) (by omega))
      refine ih (j + 1) n _ (by omega) hT2 (Or.inr ⟨hz, ?_⟩)
      rcases hf with ⟨_, h2, h3⟩ | ⟨_, h2⟩
      · rw [h3, h2]
        show (if fdI (aB A) x (wit (aB A) x) (aN A).1 (j + 1) ((aN A).2.1 x) y = 0 then j else _) = j
        rw [if_pos hz]
      · exact h2
    · refine Ev_iload rfl rfl ?_
      refine Ev_istore rfl ?_
      refine Ev_iincE rfl rfl (nI_1 _) ?_
      refine Ev_goto rfl ?_
      have hz : ¬ fdI (aB A) x (wit (aB A) x) (aN A).1 (j + 1) ((aN A).2.1 x) y = 0 := fun z => h78 (by rw [z]; decide)
      refine ih (j + 1) (j + 1) _ (by omega) hT2 (Or.inl ⟨hz, rfl, ?_⟩)
      rcases hf with ⟨_, h2, h3⟩ | ⟨h1, _⟩
      · rw [h3]
        show (if fdI (aB A) x (wit (aB A) x) (aN A).1 (j + 1) ((aN A).2.1 x) y = 0 then j else _) = _
        rw [if_neg hz]
      · exact absurd (hzz h1) hz
end S71
