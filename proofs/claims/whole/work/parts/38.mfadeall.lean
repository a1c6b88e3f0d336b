/-! One bather fades: the reference. -/
/-- the same state, but for cells C, fields Fd of the reference, its pile -/
def MF (C Fd : Nat → Bool) (σ σ' : St) : Prop := (∀ q, q ≠ 326 → C q = false → σ'.1 q = σ.1 q) ∧ (∀ q, q ≠ 400 → σ'.2 q = σ.2 q) ∧ ∀ j, Fd j = false → σ'.1 326 j = σ.1 326 j
theorem MF.rf (C Fd : Nat → Bool) (σ : St) : MF C Fd σ σ := ⟨fun _ _ _ => rfl, fun _ _ => rfl, fun _ _ => rfl⟩
theorem MF.tr {C Fd : Nat → Bool} {σ σ' σ'' : St} (h : MF C Fd σ σ') (h2 : MF C Fd σ' σ'') : MF C Fd σ σ'' := ⟨fun q hq hc => (h2.1 q hq hc).trans (h.1 q hq hc), fun q hq => (h2.2.1 q hq).trans (h.2.1 q hq), fun j hj => (h2.2.2 j hj).trans (h.2.2 j hj)⟩
theorem MF.wk {C Fd C' Fd' : Nat → Bool} {σ σ' : St} (h : MF C Fd σ σ') (hC : ∀ q, C' q = false → C q = false) (hF : ∀ j, Fd' j = false → Fd j = false) : MF C' Fd' σ σ' := ⟨fun q hq hc => h.1 q hq (hC q hc), h.2.1, fun j hj => h.2.2 j (hF j hj)⟩
theorem MSc.mf {C Fd : Nat → Bool} {σ σ' : St} (h : MSc σ σ') (hF : ∀ j, Fd j = false → fS j = false) : MF C Fd σ σ' := ⟨fun q hq _ => h.1 q hq, h.2.1, fun j hj => h.2.2 j (hF j hj)⟩
theorem MF.cell {C Fd : Nat → Bool} {σ : St} {k : Nat} (f : Nat → Int32) (hk : k ≠ 326) (hC : C k = true) : MF C Fd σ (sI σ k f) := by
  refine ⟨fun q hq hc => ?_, fun q hq => rfl, fun j hj => ?_⟩
  · rw [sR_1 σ f (fun z => by rw [z, hC] at hc; cases hc)]
  · rw [sR_1 σ f (Ne.symm hk)]
theorem MF.put {C Fd : Nat → Bool} {σ : St} {f : Nat} (x : Int32) (hF : Fd f = true) : MF C Fd σ (sI σ 326 (upd (σ.1 326) f x)) := by
  refine ⟨fun q hq _ => sR_1 σ _ hq, fun q hq => rfl, fun j hj => ?_⟩
  rw [sR_0, pk_un (fun z => by rw [z, hF] at hj; cases hj)]
theorem MRd.mf {C Fd : Nat → Bool} {σ σ' : St} {B : Bh} {S : Str} {W : Nat → Nat} {h : Nat} (H : MRd σ B S W h) (hs : MF C Fd σ σ') (hC : (C 356 || C 358 || C 359 || C 360 || C 365) = false) (hF : (Fd 53 || Fd 54) = false) : MRd σ' B S W h := by
  simp only [Bool.or_eq_false_iff] at hC hF
  obtain ⟨⟨⟨⟨c1, c2⟩, c3⟩, c4⟩, c5⟩ := hC
  obtain ⟨h1, h2, h3, h4, h5⟩ := H
  refine ⟨fun q hq => ?_, ⟨fun i hi => ?_, fun b hb => ?_⟩, fun b i hb hi => ?_, fun b hb => ?_, ?_⟩
  · rw [hs.1 356 (by decide) c1]; exact h1 q hq
  · rw [hs.1 358 (by decide) c2, hs.1 359 (by decide) c3]; exact h2.1 i hi
  · rw [hs.1 360 (by decide) c4]; exact h2.2 b hb
  · rw [hs.1 365 (by decide) c5]; exact h3 b i hb hi
  · rw [hs.2.2 53 hF.1, hs.2.2 54 hF.2, hs.1 360 (by decide) c4]; exact h4 b hb
  · rw [hs.1 365 (by decide) c5]; exact h5
theorem MFrm.mf {C Fd : Nat → Bool} {σ σ' : St} {B : Bh} (H : MFrm σ B) (hs : MF C Fd σ σ') (hC : (C 362 || C 363 || C 364) = false) : MFrm σ' B := fun k hk => by
  simp only [Bool.or_eq_false_iff] at hC
  obtain ⟨⟨c1, c2⟩, c3⟩ := hC
  have h := H k hk
  cases hf : frm B k with
  | none => rw [hf] at h; simp only at h ⊢; rw [hs.1 362 (by decide) c1]; exact h
  | some cs =>
    rw [hf] at h
    obtain ⟨a, b, h1, h2, h3, h4, h5⟩ := h
    refine ⟨a, b, ?_, ?_, h3, h4, fun q hq => ?_⟩
    · rw [hs.1 362 (by decide) c1]; exact h1
    · rw [hs.1 363 (by decide) c2]; exact h2
    · rw [hs.1 364 (by decide) c3]; exact h5 q hq
/-- a row behind an hour: what is left of each strength, but for one idea -/
def fadR (B : Bh) (row : Nat → Nat) (b w h : Nat) (but : Int32) (i : Nat) : Nat := if row i = 0 ∨ nI i = but then row i else fdM B row b w h i (row i)
theorem fadR_le {B : Bh} {row : Nat → Nat} {b w h : Nat} {but : Int32} {i : Nat} (hr : row i ≤ 99) : fadR B row b w h but i ≤ 99 := by
  unfold fadR
  by_cases hq : row i = 0 ∨ nI i = but
  · rw [if_pos hq]; exact hr
  · rw [if_neg hq]; exact (btw_le (by decide) _).2
def cA (q : Nat) : Bool := Nat.beq q 368
def cAN (q : Nat) : Bool := Nat.beq q 368 || Nat.beq q 365
section S38
variable {l : Launch} {X : Cx} {ρ : Rf} {B : Bh} {S : Str} {W : Nat → Nat}
theorem fa_loop {d : Nat} {h b : Nat} {but : Int32} {Q : Po} (hρ : RF ρ) (hW : WfN B) (hWt : WfT B) (hWf : WfF B) (hbd : ∀ b i, S b i ≤ 99) (hWb : ∀ b, W b ≤ 9) (hh : h ≤ 2000) (hb : b < nb B) (σ0 : St)
    (hQ : ∀ σ, MF cA fS σ0 σ → (∀ i, i < ni B → σ.1 368 i = nI (fadR B (S b) b (W b) h but i)) → Ev l X (d + 6) 210 51 [.ref 326, .int (nI b), .int but, .int (nI (ni B))] [] 402 402 402 ρ σ Q) :
    ∀ (m k : Nat) (σ : St), k + m = ni B → MF cA fS σ0 σ → (∀ i, i < k → σ.1 368 i = nI (fadR B (S b) b (W b) h but i)) → MRd σ B S W h → MFrm σ B →
    Ev l X (d + 6) 210 2 [.ref 326, .int (nI b), .int but, .int (nI k)] [] 402 402 402 ρ σ Q := by
  have h8 := hW.1
  have h6 := hW.2.1
  intro m
  induction m with
  | zero =>
    intro k σ hk hs ha hR hF
    refine Ev_iload rfl rfl ?_
    refine Ev_aload rfl rfl rfl ?_
    refine Ev_callV rfl rfl rfl rfl rfl (same_n 402) (m_ideaMany _ hρ hR.1) ?_
    rintro v4 ρ4 σ4 ⟨rfl, e4, g4⟩
    obtain rfl := e4.symm
    obtain rfl := g4.symm
    refine Ev_icmp_ge rfl (fun h7 => ?_) (fun h7 => absurd (nI_le (by omega) (by omega)) h7)
    have := hQ σ hs (fun i hi => ha i (by omega))
    rw [show k = ni B by omega]
    exact this
  | succ m ih =>
    intro k σ hk hs ha hR hF
    have hkb := hbd b k
    have nxt : ∀ (σ1 : St) (x : Nat), MSc σ σ1 → x = fadR B (S b) b (W b) h but k → Ev l X (d + 6) 210 2 [.ref 326, .int (nI b), .int but, .int (nI (k + 1))] [] 402 402 402 ρ (sI σ1 368 (upd (σ1.1 368) k (nI x))) Q := by
      intro σ1 x hsc hx
      have hm : MF cA fS σ σ1 := hsc.mf (fun _ q => q)
      have hm2 : MF cA fS σ (sI σ1 368 (upd (σ1.1 368) k (nI x))) := hm.tr (MF.cell _ (by decide) rfl)
      refine ih (k + 1) _ (by omega) (hs.tr hm2) (fun i hi => ?_) (hR.mf hm2 rfl rfl) (hF.mf hm2 rfl)
      rw [sR_0]
      by_cases hik : i = k
      · subst hik; rw [pk_us, hx]
      · rw [pk_un hik, hsc.1 368 (by decide)]; exact ha i (by omega)
    refine Ev_iload rfl rfl ?_
    refine Ev_aload rfl rfl rfl ?_
    refine Ev_callV rfl rfl rfl rfl rfl (same_n 402) (m_ideaMany _ hρ hR.1) ?_
    rintro v4 ρ4 σ4 ⟨rfl, e4, g4⟩
    obtain rfl := e4.symm
    obtain rfl := g4.symm
    refine Ev_icmp_ge rfl (fun h7 => absurd h7 (nI_ge (by omega) (by omega))) (fun h7 => ?_)
    refine Ev_aload rfl rfl rfl ?_
    refine Ev_getR rfl (by first | rfl | assumption) (hρ _ _ _ rfl) ?_
    refine Ev_iload rfl rfl ?_
    refine Ev_aload rfl rfl rfl ?_
    refine Ev_iload rfl rfl ?_
    refine Ev_iload rfl rfl ?_
    refine Ev_callV rfl rfl rfl rfl rfl (same_n 402) (m_strengthOf _ hρ hR.2.2.1 (by omega) (by omega)) ?_
    rintro v18 ρ18 σ18 ⟨rfl, e18, g18⟩
    obtain rfl := e18.symm
    obtain rfl := g18.symm
    refine Ev_if_eq rfl (fun h21 => ?_) (fun h21 => ?_)
    · refine Ev_aload rfl rfl rfl ?_
      refine Ev_iload rfl rfl ?_
      refine Ev_iload rfl rfl ?_
      refine Ev_callV rfl rfl rfl rfl rfl (same_n 402) (m_strengthOf _ hρ hR.2.2.1 (by omega) (by omega)) ?_
      rintro v32 ρ32 σ32 ⟨rfl, e32, g32⟩
      obtain rfl := e32.symm
      obtain rfl := g32.symm
      refine Ev_goto rfl ?_
      refine Ev_iast rfl (by first | rfl | assumption) (vp_in_nI (n := k) (show k < 8 by omega) (by decide)) ?_
      refine Ev_iincE rfl rfl (nI_1 k) ?_
      refine Ev_goto rfl ?_
      have e : S b k = fadR B (S b) b (W b) h but k := by
        unfold fadR
        rw [if_pos (Or.inl ((nI_lit (z := 0) (n := 0) rfl (by omega) (by decide)).mp h21))]
      have := nxt _ (S b k) (MSc.rf σ) e
      rw [nI_clamp (by omega)]
      exact this
    · refine Ev_iload rfl rfl ?_
      refine Ev_iload rfl rfl ?_
      refine Ev_icmp_ne rfl (fun h26 => ?_) (fun h26 => ?_)
      · refine Ev_aload rfl rfl rfl ?_
        refine Ev_iload rfl rfl ?_
        refine Ev_iload rfl rfl ?_
        refine Ev_callV rfl rfl rfl rfl rfl (same_n 402) (m_fadedOf _ hρ hR hF hW hWt hWf hbd hWb hh hb (by omega) (Nat.pos_of_ne_zero (fun q => h21 (by rw [q]; rfl)))) ?_
        rintro v41 ρ41 σ41 ⟨rfl, e41, hsc⟩
        obtain rfl := e41.symm
        refine Ev_iast rfl (by first | rfl | assumption) (vp_in_nI (n := k) (show k < 8 by omega) (by decide)) ?_
        refine Ev_iincE rfl rfl (nI_1 k) ?_
        refine Ev_goto rfl ?_
        have e : fdM B (S b) b (W b) h k (S b k) = fadR B (S b) b (W b) h but k := by
          unfold fadR
          rw [if_neg (fun q => q.elim (fun q => h21 (by rw [q]; rfl)) h26)]
        have := nxt _ _ hsc e
        rw [nI_clamp (by omega)]
        exact this
      · refine Ev_aload rfl rfl rfl ?_
        refine Ev_iload rfl rfl ?_
        refine Ev_iload rfl rfl ?_
        refine Ev_callV rfl rfl rfl rfl rfl (same_n 402) (m_strengthOf _ hρ hR.2.2.1 (by omega) (by omega)) ?_
        rintro v32 ρ32 σ32 ⟨rfl, e32, g32⟩
        obtain rfl := e32.symm
        obtain rfl := g32.symm
        refine Ev_goto rfl ?_
        refine Ev_iast rfl (by first | rfl | assumption) (vp_in_nI (n := k) (show k < 8 by omega) (by decide)) ?_
        refine Ev_iincE rfl rfl (nI_1 k) ?_
        refine Ev_goto rfl ?_
        have e : S b k = fadR B (S b) b (W b) h but k := by
          unfold fadR
          rw [if_pos (Or.inr (Decidable.not_not.mp h26))]
        have := nxt _ (S b k) (MSc.rf σ) e
        rw [nI_clamp (by omega)]
        exact this
end S38
