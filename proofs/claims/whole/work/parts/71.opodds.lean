/-! lasts, odds: the calls. -/
def lsS (B : Bh) (S : Str) (x h j : Nat) : Str := fun b => if b = x then fdI B x (wit B x) h j (S x) else S b
theorem lsS_x (B : Bh) (S : Str) (x h j : Nat) : lsS B S x h j x = fdI B x (wit B x) h j (S x) := if_pos rfl
theorem lsS_w {B : Bh} {S : Str} {x h j : Nat} (hS : WfS B S) : ∀ b i, lsS B S x h j b i ≤ 99 := by
  intro b i
  unfold lsS
  by_cases hb : b = x
  · rw [if_pos hb]; exact (fdI_w (hS.row x) j).1 i
  · rw [if_neg hb]; exact (hS b i).1
/-- a bather fades, the hour is one more: still in thought -/
theorem MTh.fd {σ0 σ σ1 : St} {B : Bh} {S S' : Str} {W : Nat → Nat} {h x : Nat} {P : Nat → Nat} (hW : WfN B) (hx : x < nb B) (H : MTh σ0 B S W h P σ) (hs : MF cAN fS σ σ1) (hr : ∀ i, i < ni B → σ1.1 365 (1 + 8 * x + i) = nI (S' x i)) (hj : ∀ j, ¬ (1 + 8 * x ≤ j ∧ j < 1 + 8 * x + ni B) → σ1.1 365 j = σ.1 365 j) (h1 : ∀ b, b ≠ x → S' b = S b) (h2 : ∀ i, ni B ≤ i → S' x i = S x i) : MTh σ0 B S' W (h + 1) P (sI σ1 365 (upd (σ1.1 365) 0 (nI (h + 1)))) := by
  obtain ⟨g1, g2, g3, g4, g5, g6, g7⟩ := H
  have n16 := hW.2.2.2.1
  have n8 := hW.1
  have n6 := hW.2.1
  have m1 : MF cAN fH σ σ1 := hs.wk (fun _ q => q) fS_fH
  have m2 : MF cAN fH σ1 (sI σ1 365 (upd (σ1.1 365) 0 (nI (h + 1)))) := MF.cell _ (by decide) rfl
  have m3 := m1.tr m2
  refine ⟨g1.tr (mf_ti m3), g2.mfn m3 rfl rfl (fun b i hb hi => ?_) (by rw [sR_0, pk_us]), fun j hq => ?_, by rw [m3.2.2 _ rfl]; exact g4, fun j hq => ?_, fun j hq => by rw [m3.1 366 (by decide) rfl]; exact g6 j hq, g7.ti (mf_ti m3)⟩
  · rw [sR_0, pk_un (by omega)]
    by_cases hbx : b = x
    · subst hbx
      by_cases hin : i < ni B
      · exact hr i hin
      · rw [hj _ (by omega), h2 i (by omega)]; exact g2.2.2.1 b i hb hi
    · rw [hj _ (by omega), h1 b hbx]; exact g2.2.2.1 b i hb hi
  · rw [sR_0, pk_un (by omega), hj _ (by omega)]; exact g3 j hq
  · rw [sR_0, pk_un (by omega), hj _ (by omega)]; exact g5 j hq
section S71
variable {l : Launch} {X : Cx}
theorem mls_loop {d x y N : Nat} {ρ : Rf} {A : Ab} {σ0 : St} {Q : Po} (hM : RM ρ σ0 A) (hA : WfA A) (hx : x < nb (aB A)) (hy : y < ni (aB A)) (hN : N = most60 (aN A).1 60) {R : Nat}
    (hQ : ∀ σ S h, ∀ w, MTh σ0 (aB A) S (wit (aB A)) h (aN A).2.2.1 σ → Ev l X (d + 7) 233 90 [.ref 326, .int (nI x), .int (nI y), .int (nI R), w] [] 402 402 402 ρ σ Q) :
    ∀ (m j n : Nat) (σ : St), j + m = N → MTh σ0 (aB A) (lsS (aB A) (aN A).2.1 x (aN A).1 j) (wit (aB A)) ((aN A).1 + j) (aN A).2.2.1 σ → ((fdI (aB A) x (wit (aB A) x) (aN A).1 j ((aN A).2.1 x) y ≠ 0 ∧ n = j ∧ R = lstK (fun n => fdI (aB A) x (wit (aB A) x) (aN A).1 n ((aN A).2.1 x) y) m j) ∨ (fdI (aB A) x (wit (aB A) x) (aN A).1 j ((aN A).2.1 x) y = 0 ∧ R = n)) →
    Ev l X (d + 7) 233 37 [.ref 326, .int (nI x), .int (nI y), .int (nI n), .int (nI (j + 1))] [] 402 402 402 ρ σ Q := by
  have hW := hA.1.1
  have hWt := hA.1.2.1
  have hWf := hA.1.2.2.1
  have n8 := hW.1
  have n6 := hW.2.1
  have nh := hA.2.1.1
  have hSw := hA.2.1.2.1
  have hN60 : N ≤ 60 ∧ (aN A).1 + N ≤ 999 ∧ (N = 60 ∨ (aN A).1 + N = 999) := by rw [hN]; unfold most60; split <;> omega
  have hρ := hM.1
  intro m
  induction m with
  | zero =>
    intro j n σ hj hT hf
    have hj : j = N := by omega
    subst hj
    have hn : n = R := by
      rcases hf with ⟨_, h2, h3⟩ | ⟨_, h2⟩
      · rw [h3, h2]; rfl
      · exact h2.symm
    subst hn
    refine Ev_iload rfl rfl ?_
    refine Ev_const rfl ?_
    refine Ev_icmp_gt rfl (fun h41 => ?_) (fun h41 => ?_)
    · exact hQ σ _ _ _ hT
    · refine Ev_aload rfl rfl rfl ?_
      refine Ev_getR rfl (by first | rfl | assumption) (hρ _ _ _ rfl) ?_
      refine Ev_const rfl ?_
      refine Ev_iald rfl (by first | rfl | assumption) (vp_in_nI (n := 0) (by decide) (by decide)) ?_
      refine Ev_norm hT.2.1.2.2.2.2 ?_
      refine Ev_const rfl ?_
      refine Ev_icmp_ge rfl (fun h53 => ?_) (fun h53 => absurd (nI_le (a := 999) (b := (aN A).1 + j) (by have : ¬ 60 < j + 1 := fun z => h41 (nI_lt (a := 60) z (by omega)); omega) (by omega)) h53)
      exact hQ σ _ _ _ hT
  | succ m ih =>
    intro j n σ hj hT hf
    have hle := lsS_w (B := aB A) (S := (aN A).2.1) (x := x) (h := (aN A).1) (j := j) hSw
    have hw8 := fdI_w (b := x) (w := wit (aB A) x) (h := (aN A).1) (hSw.row x) j
    have h99 := (fdI_w (b := x) (w := wit (aB A) x) (h := (aN A).1) (hSw.row x) (j + 1)).1 y
    have hS1 : ∀ i, fadR (aB A) (lsS (aB A) (aN A).2.1 x (aN A).1 j x) x (wit (aB A) x) ((aN A).1 + j) (-1) i = lsS (aB A) (aN A).2.1 x (aN A).1 (j + 1) x i := fun i => by rw [lsS_x, lsS_x]; rfl
    have hzz : fdI (aB A) x (wit (aB A) x) (aN A).1 j ((aN A).2.1 x) y = 0 → fdI (aB A) x (wit (aB A) x) (aN A).1 (j + 1) ((aN A).2.1 x) y = 0 := fun z => fadR_0 z
    refine Ev_iload rfl rfl ?_
    refine Ev_const rfl ?_
    refine Ev_icmp_gt rfl (fun h41 => absurd h41 (nI_nlt (a := 60) (b := j + 1) (by omega) (by decide))) (fun h41 => ?_)
    refine Ev_aload rfl rfl rfl ?_
    refine Ev_getR rfl (by first | rfl | assumption) (hρ _ _ _ rfl) ?_
    refine Ev_const rfl ?_
    refine Ev_iald rfl (by first | rfl | assumption) (vp_in_nI (n := 0) (by decide) (by decide)) ?_
    refine Ev_norm hT.2.1.2.2.2.2 ?_
    refine Ev_const rfl ?_
    refine Ev_icmp_ge rfl (fun h53 => absurd h53 (nI_ge (b := 999) (by omega) (by decide))) (fun h53 => ?_)
    refine Ev_aload rfl rfl rfl ?_
    refine Ev_iload rfl rfl ?_
    refine Ev_const rfl ?_
    refine Ev_callV rfl rfl rfl rfl rfl (same_n 402) (m_fade _ hρ (MRd.sc hT.2.1 (MSc.rf σ)) hT.2.2.2.2.2.2 hW hWt hWf hle (wf9 hA) (by omega) hx) ?_
    rintro v59 ρ59 σ59 ⟨rfl, e59, f1, f2, f3⟩
    obtain rfl := e59.symm
    refine Ev_aload rfl rfl rfl ?_
    refine Ev_getR rfl (by first | rfl | assumption) (hρ _ _ _ rfl) ?_
    refine Ev_const rfl ?_
    refine Ev_dup2 rfl (fun _ q => nomatch q) (fun _ q => nomatch q) ?_
    refine Ev_iald rfl (by first | rfl | assumption) (vp_in_nI (n := 0) (by decide) (by decide)) ?_
    refine Ev_norm (by rw [f3 _ (by show ¬ (1 + 8 * x ≤ 0 ∧ _); omega)]; exact hT.2.1.2.2.2.2 : _ = nI ((aN A).1 + j)) ?_
    refine Ev_const rfl ?_
    refine Ev_iadd rfl ?_
    refine Ev_norm (nI_1 _) ?_
    refine Ev_iast rfl (by first | rfl | assumption) (vp_in_nI (n := 0) (by decide) (by decide)) ?_
    have hT2 := hT.fd (S' := lsS (aB A) (aN A).2.1 x (aN A).1 (j + 1)) hW hx f1 (fun i hi => by rw [f2 i hi, hS1]) f3 (fun b hb => by unfold lsS; rw [if_neg hb, if_neg hb]) (fun i hi => by rw [lsS_x, lsS_x, hw8.2 i hi]; exact fadR_0 (hw8.2 i hi))
    refine Ev_aload rfl rfl rfl ?_
    refine Ev_iload rfl rfl ?_
    refine Ev_iload rfl rfl ?_
    refine Ev_callV rfl rfl rfl rfl rfl (same_n 402) (m_strengthOf _ hρ hT2.2.1.2.2.1 (by omega) (by omega)) ?_
    rintro v75 ρ75 σ75 ⟨rfl, e75, g75⟩
    obtain rfl := e75.symm
    obtain rfl := g75.symm
    refine Ev_norm (by rw [lsS_x] : _ = nI (fdI (aB A) x (wit (aB A) x) (aN A).1 (j + 1) ((aN A).2.1 x) y)) ?_
    refine Ev_if_le rfl (fun h78 => ?_) (fun h78 => ?_)
    · refine Ev_iincE rfl rfl (nI_1 _) ?_
      refine Ev_goto rfl ?_
      have hz : fdI (aB A) x (wit (aB A) x) (aN A).1 (j + 1) ((aN A).2.1 x) y = 0 := Decidable.byContradiction fun z => absurd h78 (nI_nle (Nat.pos_of_ne_zero z) (by omega))
      refine ih (j + 1) n _ (by omega) hT2 (Or.inr ⟨hz, ?_⟩)
      rcases hf with ⟨_, h2, h3⟩ | ⟨_, h2⟩
      · rw [h3, h2]
        show (if fdI (aB A) x (wit (aB A) x) (aN A).1 (j + 1) ((aN A).2.1 x) y = 0 then j else _) = j
        rw [if_pos hz]
      · exact h2
    · refine Ev_iload rfl rfl ?_
      refine Ev_istore rfl ?_
      refine Ev_iincE rfl rfl (nI_1 _) ?_
      refine Ev_goto rfl ?_
      have hz : ¬ fdI (aB A) x (wit (aB A) x) (aN A).1 (j + 1) ((aN A).2.1 x) y = 0 := fun z => h78 (by rw [z]; decide)
      refine ih (j + 1) (j + 1) _ (by omega) hT2 (Or.inl ⟨hz, rfl, ?_⟩)
      rcases hf with ⟨_, h2, h3⟩ | ⟨h1, _⟩
      · rw [h3]
        show (if fdI (aB A) x (wit (aB A) x) (aN A).1 (j + 1) ((aN A).2.1 x) y = 0 then j else _) = _
        rw [if_neg hz]
      · exact absurd (hzz h1) hz
theorem op_lasts (a b : Int32) : OpI l X InvA 122 233 [.int a, .int b] := by
  refine op_of (fun A q ρ σ hA hC hρ => ?_)
  have hW := hA.1.1
  have hWt := hA.1.2.1
  have hWf := hA.1.2.2.1
  have n8 := hW.1
  have n6 := hW.2.1
  have nh := hA.2.1.1
  have hSw := hA.2.1.2.1
  have hCS : CStr σ (aN A).2.1 := fun b hb i hi => rf_str hC hb hi
  have hhr := hC.2.2.2.1.1
  have no : ∀ (hno : ∀ x y : Nat, x < nb (aB A) → y < ni (aB A) → a = nI x → b = nI y → (aN A).2.1 x y = 0), ∃ (r : Int32) (A' : Ab), WfA A' ∧ T l X 100 122 [.ref 0, .int a, .int b] 402 402 ρ σ (fun v ρ' σ' => v = some (.int r) ∧ RF ρ' ∧ upM σ σ' ∧ ∃ q', RC q' ρ' σ' A') ∧
      ∀ ρ σ, RM ρ σ A → T l X 100 233 [.ref 326, .int a, .int b] 402 402 ρ σ (fun v ρ' σ' => v = some (.int r) ∧ ρ' = ρ ∧ upC σ σ' ∧ RM ρ' σ' A') := by
    intro hno
    refine ⟨-1, A, hA, ?_, fun ρ σ hM => ?_⟩
    · refine T_of rfl ?_
      refine Ev_aload rfl rfl rfl ?_
      refine Ev_iload rfl rfl ?_
      refine Ev_iload rfl rfl ?_
      refine Ev_callV rfl rfl rfl rfl rfl (same_n 402) (t_hasBoth _ _ _ hC.1.1 hC.2.1 hW) ?_
      rintro v3 ρ3 σ3 ⟨rfl, e3, g3⟩
      obtain rfl := e3.symm
      obtain rfl := g3.symm
      refine Ev_if_eq rfl (fun h6 => ?_) (fun h6 => ?_)
      · refine Ev_const rfl ?_
        exact Ev_ireturn rfl rfl rfl rfl ⟨rfl, hC.same⟩
      · obtain ⟨ha, hb⟩ := Bool.and_eq_true_iff.mp (rt_of h6)
        obtain ⟨x, hx, rfl⟩ := hasF_of ha
        obtain ⟨y, hy, rfl⟩ := hasF_of hb
        refine Ev_aload rfl rfl rfl ?_
        refine Ev_getR rfl (by first | rfl | assumption) (hρ _ _ _ rfl) ?_
        refine Ev_getR rfl (by first | rfl | assumption) (hρ _ _ _ rfl) ?_
        refine Ev_iload rfl rfl ?_
        refine Ev_aald (t := 4) rfl (Or.inl rfl) (by first | rfl | assumption) (vp_in_nI (n := x) (show x < 6 by omega) (by decide)) (by rw [nI_clamp (by omega)]; exact rf33 hρ (by omega) : _ = some (34 + x)) ?_
        refine Ev_iload rfl rfl ?_
        refine Ev_iald rfl ((rowN (show x < 6 by omega)).1) (by rw [(rowN (show x < 6 by omega)).2.1]; exact vp_in_nI (n := y) (show y < 8 by omega) (by decide)) ?_
        refine Ev_norm (by rw [nI_clamp (by omega), rf_str hC (by omega) (by omega), hno x y hx hy rfl rfl]; rfl : _ = (0 : Int32)) ?_
        refine Ev_if_ne rfl (fun h20 => absurd rfl h20) (fun h20 => ?_)
        refine Ev_const rfl ?_
        exact Ev_ireturn rfl rfl rfl rfl ⟨rfl, hC.same⟩
    · have hρ := hM.1
      refine T_of rfl ?_
      refine Ev_aload rfl rfl rfl ?_
      refine Ev_iload rfl rfl ?_
      refine Ev_callV rfl rfl rfl rfl rfl (same_n 402) (m_isBather _ hρ hM.2.1.1 hW _) ?_
      rintro v2 ρ2 σ2 ⟨rfl, e2, g2⟩
      obtain rfl := e2.symm
      obtain rfl := g2.symm
      refine Ev_if_eq rfl (fun h5 => ?_) (fun h5 => ?_)
      · refine Ev_const rfl ?_
        exact Ev_ireturn rfl rfl rfl rfl ⟨rfl, rfl, hM.same⟩
      · refine Ev_aload rfl rfl rfl ?_
        refine Ev_iload rfl rfl ?_
        refine Ev_i2l rfl ?_
        refine Ev_callV rfl rfl rfl rfl rfl (same_n 402) (m_isIdea _ hρ hM.2.1.1 hW _) ?_
        rintro v11 ρ11 σ11 ⟨rfl, e11, g11⟩
        obtain rfl := e11.symm
        obtain rfl := g11.symm
        refine Ev_if_eq rfl (fun h14 => ?_) (fun h14 => ?_)
        · refine Ev_const rfl ?_
          exact Ev_ireturn rfl rfl rfl rfl ⟨rfl, rfl, hM.same⟩
        · obtain ⟨x, hx, rfl⟩ := in_of (of_decide_eq_true (rt_of h5))
          have hy0 := of_decide_eq_true (rt_of h14)
          rw [l_of] at hy0
          obtain ⟨y, hy, rfl⟩ := in_of hy0
          refine Ev_aload rfl rfl rfl ?_
          refine Ev_iload rfl rfl ?_
          refine Ev_iload rfl rfl ?_
          refine Ev_callV rfl rfl rfl rfl rfl (same_n 402) (m_strengthOf _ hρ hM.2.2.2.1.2.1 (by omega) (by omega)) ?_
          rintro v20 ρ20 σ20 ⟨rfl, e20, g20⟩
          obtain rfl := e20.symm
          obtain rfl := g20.symm
          refine Ev_norm (by rw [hno x y hx hy rfl rfl]; rfl : _ = (0 : Int32)) ?_
          refine Ev_if_ne rfl (fun h23 => absurd rfl h23) (fun h23 => ?_)
          refine Ev_const rfl ?_
          exact Ev_ireturn rfl rfl rfl rfl ⟨rfl, rfl, hM.same⟩
  by_cases h : (hasF (nb (aB A)) a && hasF (ni (aB A)) b) = true
  · obtain ⟨ha, hb⟩ := Bool.and_eq_true_iff.mp h
    obtain ⟨x, hx, rfl⟩ := hasF_of ha
    obtain ⟨y, hy, rfl⟩ := hasF_of hb
    by_cases h0 : (aN A).2.1 x y = 0
    · refine no (fun x' y' hx' hy' e1 e2 => ?_)
      have := (nI_eq (by omega) (by omega)).mp e1
      have := (nI_eq (by omega) (by omega)).mp e2
      subst x'; subst y'; exact h0
    · have h99 := (hSw x y).1
      refine ⟨nI (lstK (fun n => fdI (aB A) x (wit (aB A) x) (aN A).1 n ((aN A).2.1 x) y) (most60 (aN A).1 60) 0), A, hA, ?_, fun ρ σ hM => ?_⟩
      · refine T_of rfl ?_
        refine Ev_aload rfl rfl rfl ?_
        refine Ev_iload rfl rfl ?_
        refine Ev_iload rfl rfl ?_
        refine Ev_callV rfl rfl rfl rfl rfl (same_n 402) (t_hasBoth _ _ _ hC.1.1 hC.2.1 hW) ?_
        rintro v3 ρ3 σ3 ⟨rfl, e3, g3⟩
        obtain rfl := e3.symm
        obtain rfl := g3.symm
        refine Ev_if_eq rfl (fun h6 => absurd h6 (by rw [h]; decide)) (fun h6 => ?_)
        refine Ev_aload rfl rfl rfl ?_
        refine Ev_getR rfl (by first | rfl | assumption) (hρ _ _ _ rfl) ?_
        refine Ev_getR rfl (by first | rfl | assumption) (hρ _ _ _ rfl) ?_
        refine Ev_iload rfl rfl ?_
        refine Ev_aald (t := 4) rfl (Or.inl rfl) (by first | rfl | assumption) (vp_in_nI (n := x) (show x < 6 by omega) (by decide)) (by rw [nI_clamp (by omega)]; exact rf33 hρ (by omega) : _ = some (34 + x)) ?_
        refine Ev_iload rfl rfl ?_
        refine Ev_iald rfl ((rowN (show x < 6 by omega)).1) (by rw [(rowN (show x < 6 by omega)).2.1]; exact vp_in_nI (n := y) (show y < 8 by omega) (by decide)) ?_
        refine Ev_norm (by rw [nI_clamp (by omega)]; exact rf_str hC (by omega) (by omega) : _ = nI ((aN A).2.1 x y)) ?_
        refine Ev_if_ne rfl (fun h20 => ?_) (fun h20 => absurd (nI_ne0 (Nat.pos_of_ne_zero h0) (by omega)) h20)
        refine Ev_aload rfl rfl rfl ?_
        refine Ev_getR rfl (by first | rfl | assumption) (hρ _ _ _ rfl) ?_
        refine Ev_iload rfl rfl ?_
        refine Ev_iload rfl rfl ?_
        refine Ev_callV rfl rfl rfl rfl rfl (same_n 402) (t_lastKnown _ hC.2.1 hW hWt hWf hCS hSw hhr nh hx hy) ?_
        rintro v31 ρ31 σ31 ⟨rfl, e31, s31⟩
        obtain rfl := e31.symm
        exact Ev_ireturn rfl rfl rfl rfl ⟨rfl, hC.pure (s31.wk (fun _ _ h => cR_X h))⟩
      · have hρ := hM.1
        have hls : lsS (aB A) (aN A).2.1 x (aN A).1 0 = (aN A).2.1 := by
          funext b
          unfold lsS
          by_cases hb : b = x
          · rw [if_pos hb, hb]; rfl
          · rw [if_neg hb]
        refine T_of rfl ?_
        refine Ev_aload rfl rfl rfl ?_
        refine Ev_iload rfl rfl ?_
        refine Ev_callV rfl rfl rfl rfl rfl (same_n 402) (m_isBather _ hρ hM.2.1.1 hW _) ?_
        rintro v2 ρ2 σ2 ⟨rfl, e2, g2⟩
        obtain rfl := e2.symm
        obtain rfl := g2.symm
        refine Ev_if_eq rfl (fun h5 => absurd h5 (by rw [← hasF_eq, ha]; decide)) (fun h5 => ?_)
        refine Ev_aload rfl rfl rfl ?_
        refine Ev_iload rfl rfl ?_
        refine Ev_i2l rfl ?_
        refine Ev_callV rfl rfl rfl rfl rfl (same_n 402) (m_isIdea _ hρ hM.2.1.1 hW _) ?_
        rintro v11 ρ11 σ11 ⟨rfl, e11, g11⟩
        obtain rfl := e11.symm
        obtain rfl := g11.symm
        refine Ev_if_eq rfl (fun h14 => absurd h14 (by rw [l_of, ← hasF_eq, hb]; decide)) (fun h14 => ?_)
        refine Ev_aload rfl rfl rfl ?_
        refine Ev_iload rfl rfl ?_
        refine Ev_iload rfl rfl ?_
        refine Ev_callV rfl rfl rfl rfl rfl (same_n 402) (m_strengthOf _ hρ hM.2.2.2.1.2.1 (by omega) (by omega)) ?_
        rintro v20 ρ20 σ20 ⟨rfl, e20, g20⟩
        obtain rfl := e20.symm
        obtain rfl := g20.symm
        refine Ev_if_ne rfl (fun h23 => ?_) (fun h23 => absurd (nI_ne0 (Nat.pos_of_ne_zero h0) (by omega)) h23)
        refine Ev_const rfl ?_
        refine Ev_istore rfl ?_
        refine Ev_aload rfl rfl rfl ?_
        refine Ev_callV rfl rfl rfl rfl rfl (same_n 402) (m_thinks _ hM hW) ?_
        rintro v31 ρ31 σ31 ⟨rfl, e31, t31⟩
        obtain rfl := e31.symm
        refine Ev_const rfl ?_
        refine Ev_istore rfl ?_
        refine mls_loop (d := 93) hM hA hx hy rfl (fun σ1 S h1 w hT => ?_) (most60 (aN A).1 60) 0 0 σ31 (by omega) (by rw [hls]; exact t31) (Or.inl ⟨h0, rfl, rfl⟩)
        refine Ev_aload rfl rfl rfl ?_
        refine Ev_callV rfl rfl rfl rfl rfl (same_n 402) (m_thBack _ hM hT) ?_
        rintro v91 ρ91 σ91 ⟨rfl, e91, f91, -⟩
        obtain rfl := e91.symm
        refine Ev_iload rfl rfl ?_
        exact Ev_ireturn rfl rfl rfl rfl ⟨rfl, rfl, hM.pure f91⟩
  · exact no (fun x y hx hy e1 e2 => absurd (by subst e1; subst e2; rw [hasF_nI hx (by omega), hasF_nI hy (by omega)]; rfl) h)
/-- what the reference's loop has counted -/
def odM (B : Bh) (P : Nat → Nat) (row : Nat → Nat) (b w h i : Nat) : Nat → Nat
  | 0 => 0
  | k + 1 => odK B P row b w h i k + 10 * (100 - sq B) * knO B P row b w h i (tdM B h)
theorem mod_loop {d x y : Nat} {ρ : Rf} {A : Ab} {σ0 : St} {Q : Po} (hM : RM ρ σ0 A) (hA : WfA A) (hx : x < nb (aB A)) (hy : y < ni (aB A)) (h9 : (aN A).1 < 999)
    (hQ : ∀ σ w, MTh σ0 (aB A) (aN A).2.1 (wit (aB A)) (aN A).1 (aN A).2.2.1 σ → Ev l X (d + 8) 244 117 [.ref 326, .int (nI x), .int (nI y), .int (nI (odM (aB A) (aN A).2.2.1 ((aN A).2.1 x) x (wit (aB A) x) (aN A).1 y 11)), w] [] 402 402 402 ρ σ Q) :
    ∀ (m k : Nat) (σ : St), k + m = 11 → MTh σ0 (aB A) (aN A).2.1 (wit (aB A)) (aN A).1 (aN A).2.2.1 σ →
    Ev l X (d + 8) 244 38 [.ref 326, .int (nI x), .int (nI y), .int (nI (odM (aB A) (aN A).2.2.1 ((aN A).2.1 x) x (wit (aB A) x) (aN A).1 y k)), .int (nI k - 1)] [] 402 402 402 ρ σ Q := by
  have hW := hA.1.1
  have hWt := hA.1.2.1
  have hWf := hA.1.2.2.1
  have n8 := hW.1
  have n6 := hW.2.1
  have n100 := hW.2.2.2.2
  have hSw := hA.2.1.2.1
  have hPw := hA.2.1.2.2.1
  have hle : ∀ b i, (aN A).2.1 b i ≤ 99 := fun b i => (hSw b i).1
  have hρ := hM.1
  intro m
  induction m with
  | zero =>
    intro k σ hk hT
    have hk : k = 11 := by omega
    subst hk
    refine Ev_iload rfl rfl ?_
    refine Ev_const rfl ?_
    refine Ev_icmp_gt rfl (fun h42 => ?_) (fun h42 => absurd (by decide) h42)
    exact hQ σ _ hT
  | succ m ih =>
    intro k σ hk hT
    -- behind the hour with that tide
    have fin : ∀ (σ1 : St) (t : Nat), t ≤ 9 → (k = 0 ∧ t = tdM (aB A) (aN A).1 ∨ k = t + 1) → MTh σ0 (aB A) (aN A).2.1 (wit (aB A)) (aN A).1 (aN A).2.2.1 σ1 → σ1.1 326 58 = nI t →
        Ev l X (d + 8) 244 61 [.ref 326, .int (nI x), .int (nI y), .int (nI (odM (aB A) (aN A).2.2.1 ((aN A).2.1 x) x (wit (aB A) x) (aN A).1 y k)), .int (nI k - 1)] [] 402 402 402 ρ σ1 Q := by
      intro σ1 t ht hkt hT1 htd
      have hb99 := hrB_le (B := aB A) (row := (aN A).2.1 x) (b := x) (w := wit (aB A) x) (h := (aN A).1) (tide := t) (o := pfM (aB A) (aN A).2.2.1 (aN A).1 x) (fun j => (hSw x j).1) y
      have back : ∀ (σ2 : St) (S : Str) (h2 s : Nat), MTh σ0 (aB A) S (wit (aB A)) h2 (aN A).2.2.1 σ2 → s = odM (aB A) (aN A).2.2.1 ((aN A).2.1 x) x (wit (aB A) x) (aN A).1 y (k + 1) → Ev l X (d + 8) 244 107 [.ref 326, .int (nI x), .int (nI y), .int (nI s), .int (nI k - 1)] [] 402 402 402 ρ σ2 Q := by
        intro σ2 S h2 s hT2 hs
        subst hs
        refine Ev_aload rfl rfl rfl ?_
        refine Ev_callV rfl rfl rfl rfl rfl (same_n 402) (m_thAnew _ hM hW hT2) ?_
        rintro v108 ρ108 σ108 ⟨rfl, e108, t108⟩
        obtain rfl := e108.symm
        refine Ev_iincE rfl rfl (show nI k - 1 + 1 = nI (k + 1) - 1 by rw [nI_pred]; exact Int32.sub_add_cancel _ _) ?_
        refine Ev_goto rfl ?_
        exact ih (k + 1) σ108 (by omega) t108
      refine Ev_aload rfl rfl rfl ?_
      refine Ev_const rfl ?_
      refine Ev_callV rfl rfl rfl rfl rfl (same_n 402) (m_hourGoes _ (th := true) (K := (0, fun _ => 0)) hρ hT1.2.1 hT1.2.2.2.2.2.2 hW hWt hWf hSw hPw hT1.2.2.1 (wf9 hA) (by omega) htd ht (mkp_th hT1 _)) ?_
      rintro v63 ρ63 σ63 hq63
      have hT2 := hT1.hg hW hq63
      obtain ⟨rfl, e63, -⟩ := hq63
      obtain rfl := e63.symm
      refine Ev_aload rfl rfl rfl ?_
      refine Ev_iload rfl rfl ?_
      refine Ev_iload rfl rfl ?_
      refine Ev_callV rfl rfl rfl rfl rfl (same_n 402) (m_strengthOf _ hρ hT2.2.1.2.2.1 (by omega) (by omega)) ?_
      rintro v69 ρ69 σ69 ⟨rfl, e69, g69⟩
      obtain rfl := e69.symm
      obtain rfl := g69.symm
      refine Ev_norm (by unfold hrS; rw [if_pos hx] : _ = nI (hrB (aB A) ((aN A).2.1 x) x (wit (aB A) x) (aN A).1 t (pfM (aB A) (aN A).2.2.1 (aN A).1 x) y)) ?_
      refine Ev_if_le rfl (fun h72 => ?_) (fun h72 => ?_)
      · have hz : knO (aB A) (aN A).2.2.1 ((aN A).2.1 x) x (wit (aB A) x) (aN A).1 y t = 0 := by unfold knO; rw [if_neg (fun z => absurd h72 (nI_nle z (by omega)))]
        refine back σ63 _ _ _ hT2 ?_
        rcases hkt with ⟨rfl, rfl⟩ | rfl
        · show 0 = 0 + 10 * (100 - sq (aB A)) * _
          rw [hz]; rfl
        · show odK (aB A) _ _ _ _ _ _ t + _ = odK (aB A) _ _ _ _ _ _ t + sq (aB A) * _ + _
          rw [hz, Nat.mul_zero, Nat.add_zero]
      · refine Ev_iload rfl rfl ?_
        refine Ev_iload rfl rfl ?_
        refine Ev_const rfl ?_
        refine Ev_icmp_ne rfl (fun h79 => ?_) (fun h79 => ?_)
        · refine Ev_aload rfl rfl rfl ?_
          refine Ev_getR rfl (by first | rfl | assumption) (hρ _ _ _ rfl) ?_
          refine Ev_const rfl ?_
          refine Ev_iald rfl (by first | rfl | assumption) (vp_in_nI (n := 9) (by decide) (by decide)) ?_
          refine Ev_norm (show _ = nI (sq (aB A)) from hT2.2.1.1 4 (by decide)) ?_
          refine Ev_iadd rfl ?_
          refine Ev_norm (nI_add _ _) ?_
          refine Ev_istore rfl ?_
          have hz : knO (aB A) (aN A).2.2.1 ((aN A).2.1 x) x (wit (aB A) x) (aN A).1 y t = 1 := by unfold knO; rw [if_pos (Nat.pos_of_ne_zero (fun z => h72 (by rw [z]; decide)))]
          refine back σ63 _ _ _ hT2 ?_
          rcases hkt with ⟨rfl, rfl⟩ | rfl
          · exact absurd (by decide) h79
          · show odK (aB A) _ _ _ _ _ _ t + _ + sq (aB A) = odK (aB A) _ _ _ _ _ _ t + sq (aB A) * _ + _
            rw [hz, Nat.mul_one]; omega
        · refine Ev_const rfl ?_
          refine Ev_const rfl ?_
          refine Ev_aload rfl rfl rfl ?_
          refine Ev_getR rfl (by first | rfl | assumption) (hρ _ _ _ rfl) ?_
          refine Ev_const rfl ?_
          refine Ev_iald rfl (by first | rfl | assumption) (vp_in_nI (n := 9) (by decide) (by decide)) ?_
          refine Ev_norm (show _ = nI (sq (aB A)) from hT2.2.1.1 4 (by decide)) ?_
          refine Ev_isub rfl ?_
          refine Ev_norm (pk_sub (a := 100) (b := sq (aB A)) (by omega) : _ = nI (100 - sq (aB A))) ?_
          refine Ev_imul rfl ?_
          refine Ev_norm (pk_mul 10 (100 - sq (aB A)) : _ = nI (10 * (100 - sq (aB A)))) ?_
          refine Ev_goto rfl ?_
          refine Ev_iadd rfl ?_
          refine Ev_norm (nI_add _ _) ?_
          refine Ev_istore rfl ?_
          have hz : knO (aB A) (aN A).2.2.1 ((aN A).2.1 x) x (wit (aB A) x) (aN A).1 y t = 1 := by unfold knO; rw [if_pos (Nat.pos_of_ne_zero (fun z => h72 (by rw [z]; decide)))]
          refine back σ63 _ _ _ hT2 ?_
          rcases hkt with ⟨rfl, rfl⟩ | rfl
          · show 0 + 10 * (100 - sq (aB A)) = 0 + 10 * (100 - sq (aB A)) * _
            rw [hz, Nat.mul_one]
          · exact absurd (show nI t = -1 by have := Decidable.not_not.mp h79; rwa [nI_pred] at this) (nI_m1 (by omega))
    have hk9 : ¬ (9 : Int32) < nI k - 1 := by
      cases k with
      | zero => decide
      | succ j => rw [nI_pred]; exact nI_nlt (a := 9) (b := j) (by omega) (by decide)
    refine Ev_iload rfl rfl ?_
    refine Ev_const rfl ?_
    refine Ev_icmp_gt rfl (fun h42 => absurd h42 hk9) (fun h42 => ?_)
    refine Ev_aload rfl rfl rfl ?_
    refine Ev_callV rfl rfl rfl rfl rfl (same_n 402) (m_laysTide _ hρ hT.2.1 hT.2.2.2.2.2.2 hW hWt hWf hle (wf9 hA) (by omega)) ?_
    rintro v46 ρ46 σ46 ⟨rfl, e46, t46⟩
    obtain rfl := e46.symm
    refine Ev_iload rfl rfl ?_
    refine Ev_const rfl ?_
    refine Ev_icmp_eq rfl (fun h52 => ?_) (fun h52 => ?_)
    · have hk0 : k = 0 := Decidable.byContradiction fun z => by
        obtain ⟨j, rfl⟩ : ∃ j, k = j + 1 := ⟨k - 1, by omega⟩
        rw [nI_pred] at h52
        exact nI_m1 (by omega) h52
      exact fin σ46 _ (tdM_le _ _) (Or.inl ⟨hk0, rfl⟩) (hT.mtd t46) t46.2.2.2
    · refine Ev_aload rfl rfl rfl ?_
      refine Ev_iload rfl rfl ?_
      refine Ev_putI rfl (by first | rfl | assumption) ⟨rfl, rfl⟩ rfl ?_
      obtain ⟨j, rfl⟩ : ∃ j, k = j + 1 := ⟨k - 1, by have : k ≠ 0 := (fun z => h52 (by rw [z]; decide)); omega⟩
      have hm : MF cN0 fH σ46 (sI σ46 326 (upd (σ46.1 326) 58 (nI (j + 1) - 1))) := MF.put _ rfl
      exact fin _ j (by omega) (Or.inr rfl) ((hT.mtd t46).sc hm rfl rfl rfl rfl (fun _ _ => rfl) (fun _ q => fH_Ti q)) (by rw [sR_0, pk_us, nI_pred])
theorem op_odds (a b : Int32) : OpI l X InvA 126 244 [.int a, .int b] := by
  refine op_of (fun A q ρ σ hA hC hρ => ?_)
  have hW := hA.1.1
  have hWt := hA.1.2.1
  have hWf := hA.1.2.2.1
  have n8 := hW.1
  have n6 := hW.2.1
  have nh := hA.2.1.1
  have hSw := hA.2.1.2.1
  have hPw := hA.2.1.2.2.1
  have hCS : CStr σ (aN A).2.1 := fun b hb i hi => rf_str hC hb hi
  have hhr := hC.2.2.2.1.1
  by_cases h : ((hasF (nb (aB A)) a && hasF (ni (aB A)) b) && decide ((aN A).1 < 999)) = true
  · obtain ⟨hab, hcm⟩ := Bool.and_eq_true_iff.mp h
    obtain ⟨ha, hb⟩ := Bool.and_eq_true_iff.mp hab
    obtain ⟨x, hx, rfl⟩ := hasF_of ha
    obtain ⟨y, hy, rfl⟩ := hasF_of hb
    have h9 := of_decide_eq_true hcm
    refine ⟨nI (odM (aB A) (aN A).2.2.1 ((aN A).2.1 x) x (wit (aB A) x) (aN A).1 y 11), A, hA, ?_, fun ρ σ hM => ?_⟩
    · refine T_of rfl ?_
      refine Ev_aload rfl rfl rfl ?_
      refine Ev_iload rfl rfl ?_
      refine Ev_iload rfl rfl ?_
      refine Ev_callV rfl rfl rfl rfl rfl (same_n 402) (t_hasBoth _ _ _ hC.1.1 hC.2.1 hW) ?_
      rintro v3 ρ3 σ3 ⟨rfl, e3, g3⟩
      obtain rfl := e3.symm
      obtain rfl := g3.symm
      refine Ev_if_eq rfl (fun h6 => absurd h6 (by rw [hab]; decide)) (fun h6 => ?_)
      refine Ev_aload rfl rfl rfl ?_
      refine Ev_getR rfl (by first | rfl | assumption) (hρ _ _ _ rfl) ?_
      refine Ev_getI rfl (by first | rfl | assumption) ?_
      refine Ev_norm hhr ?_
      refine Ev_const rfl ?_
      refine Ev_icmp_lt rfl (fun h19 => ?_) (fun h19 => absurd (nI_lt (b := 999) h9 (by decide)) h19)
      refine Ev_aload rfl rfl rfl ?_
      refine Ev_getR rfl (by first | rfl | assumption) (hρ _ _ _ rfl) ?_
      refine Ev_iload rfl rfl ?_
      refine Ev_iload rfl rfl ?_
      refine Ev_callV rfl rfl rfl rfl rfl (same_n 402) (t_countOdds _ hC.2.1 hW hWt hWf hPw hC.2.2.2.1.2.2.1 hCS hSw hhr nh hx hy) ?_
      rintro v30 ρ30 σ30 ⟨rfl, e30, s30⟩
      obtain rfl := e30.symm
      exact Ev_ireturn rfl rfl rfl rfl ⟨rfl, hC.pure (s30.wk (fun _ _ h => cR_X h))⟩
    · have hρ := hM.1
      refine T_of rfl ?_
      refine Ev_aload rfl rfl rfl ?_
      refine Ev_iload rfl rfl ?_
      refine Ev_callV rfl rfl rfl rfl rfl (same_n 402) (m_isBather _ hρ hM.2.1.1 hW _) ?_
      rintro v2 ρ2 σ2 ⟨rfl, e2, g2⟩
      obtain rfl := e2.symm
      obtain rfl := g2.symm
      refine Ev_if_eq rfl (fun h5 => absurd h5 (by rw [← hasF_eq, ha]; decide)) (fun h5 => ?_)
      refine Ev_aload rfl rfl rfl ?_
      refine Ev_iload rfl rfl ?_
      refine Ev_i2l rfl ?_
      refine Ev_callV rfl rfl rfl rfl rfl (same_n 402) (m_isIdea _ hρ hM.2.1.1 hW _) ?_
      rintro v11 ρ11 σ11 ⟨rfl, e11, g11⟩
      obtain rfl := e11.symm
      obtain rfl := g11.symm
      refine Ev_if_eq rfl (fun h14 => absurd h14 (by rw [l_of, ← hasF_eq, hb]; decide)) (fun h14 => ?_)
      refine Ev_aload rfl rfl rfl ?_
      refine Ev_const rfl ?_
      refine Ev_const rfl ?_
      refine Ev_const rfl ?_
      refine Ev_callV rfl rfl rfl rfl rfl (same_n 402) (m_isAhead _ (nI 1) (lo := 1) (hi := 1) hρ hM.2.2.2.1.1 (by omega) (by decide) (by decide)) ?_
      rintro v21 ρ21 σ21 ⟨rfl, e21, g21⟩
      obtain rfl := e21.symm
      obtain rfl := g21.symm
      refine Ev_if_ne rfl (fun h24 => ?_) (fun h24 => absurd (by rw [cmF_nI (by decide) (Nat.le_refl 1) (Nat.le_refl 1) (by omega)]; decide) h24)
      refine Ev_const rfl ?_
      refine Ev_istore rfl ?_
      refine Ev_aload rfl rfl rfl ?_
      refine Ev_callV rfl rfl rfl rfl rfl (same_n 402) (m_thinks _ hM hW) ?_
      rintro v32 ρ32 σ32 ⟨rfl, e32, t32⟩
      obtain rfl := e32.symm
      refine Ev_const rfl ?_
      refine Ev_istore rfl ?_
      refine mod_loop (d := 92) hM hA hx hy h9 (fun σ1 w hT => ?_) 11 0 σ32 (by omega) t32
      refine Ev_aload rfl rfl rfl ?_
      refine Ev_callV rfl rfl rfl rfl rfl (same_n 402) (m_thBack _ hM hT) ?_
      rintro v118 ρ118 σ118 ⟨rfl, e118, f118, -⟩
      obtain rfl := e118.symm
      refine Ev_iload rfl rfl ?_
      exact Ev_ireturn rfl rfl rfl rfl ⟨rfl, rfl, hM.pure f118⟩
  · refine ⟨-1, A, hA, ?_, fun ρ σ hM => ?_⟩
    · refine T_of rfl ?_
      refine Ev_aload rfl rfl rfl ?_
      refine Ev_iload rfl rfl ?_
      refine Ev_iload rfl rfl ?_
      refine Ev_callV rfl rfl rfl rfl rfl (same_n 402) (t_hasBoth _ _ _ hC.1.1 hC.2.1 hW) ?_
      rintro v3 ρ3 σ3 ⟨rfl, e3, g3⟩
      obtain rfl := e3.symm
      obtain rfl := g3.symm
      refine Ev_if_eq rfl (fun h6 => ?_) (fun h6 => ?_)
      · refine Ev_const rfl ?_
        exact Ev_ireturn rfl rfl rfl rfl ⟨rfl, hC.same⟩
      · refine Ev_aload rfl rfl rfl ?_
        refine Ev_getR rfl (by first | rfl | assumption) (hρ _ _ _ rfl) ?_
        refine Ev_getI rfl (by first | rfl | assumption) ?_
        refine Ev_norm hhr ?_
        refine Ev_const rfl ?_
        refine Ev_icmp_lt rfl (fun h19 => absurd (Bool.and_eq_true_iff.mpr ⟨rt_of h6, decide_eq_true ((nI_ltI (b := 999) (by omega) (by decide)).mp h19)⟩) h) (fun h19 => ?_)
        refine Ev_const rfl ?_
        exact Ev_ireturn rfl rfl rfl rfl ⟨rfl, hC.same⟩
    · have hρ := hM.1
      refine T_of rfl ?_
      refine Ev_aload rfl rfl rfl ?_
      refine Ev_iload rfl rfl ?_
      refine Ev_callV rfl rfl rfl rfl rfl (same_n 402) (m_isBather _ hρ hM.2.1.1 hW _) ?_
      rintro v2 ρ2 σ2 ⟨rfl, e2, g2⟩
      obtain rfl := e2.symm
      obtain rfl := g2.symm
      refine Ev_if_eq rfl (fun h5 => ?_) (fun h5 => ?_)
      · refine Ev_const rfl ?_
        exact Ev_ireturn rfl rfl rfl rfl ⟨rfl, rfl, hM.same⟩
      · refine Ev_aload rfl rfl rfl ?_
        refine Ev_iload rfl rfl ?_
        refine Ev_i2l rfl ?_
        refine Ev_callV rfl rfl rfl rfl rfl (same_n 402) (m_isIdea _ hρ hM.2.1.1 hW _) ?_
        rintro v11 ρ11 σ11 ⟨rfl, e11, g11⟩
        obtain rfl := e11.symm
        obtain rfl := g11.symm
        refine Ev_if_eq rfl (fun h14 => ?_) (fun h14 => ?_)
        · refine Ev_const rfl ?_
          exact Ev_ireturn rfl rfl rfl rfl ⟨rfl, rfl, hM.same⟩
        · refine Ev_aload rfl rfl rfl ?_
          refine Ev_const rfl ?_
          refine Ev_const rfl ?_
          refine Ev_const rfl ?_
          refine Ev_callV rfl rfl rfl rfl rfl (same_n 402) (m_isAhead _ (nI 1) (lo := 1) (hi := 1) hρ hM.2.2.2.1.1 (by omega) (by decide) (by decide)) ?_
          rintro v21 ρ21 σ21 ⟨rfl, e21, g21⟩
          obtain rfl := e21.symm
          obtain rfl := g21.symm
          refine Ev_if_ne rfl (fun h24 => absurd (Bool.and_eq_true_iff.mpr ⟨Bool.and_eq_true_iff.mpr ⟨rt_of h5, by have := rt_of h14; rwa [l_of] at this⟩, decide_eq_true (by have := of_decide_eq_true (rt_of h24); rw [nI_toInt (by decide)] at this; omega)⟩) h) (fun h24 => ?_)
          refine Ev_const rfl ?_
          exact Ev_ireturn rfl rfl rfl rfl ⟨rfl, rfl, hM.same⟩
end S71
