/-! What asking leaves behind, on both sides. -/
def cX (k j : Nat) : Bool := cL k j || (Nat.ble 267 k && Nat.ble k 314 && !(Nat.beq k 267 && Nat.beq j 12))
theorem cX_f {k j : Nat} (h : k ≠ 16 ∧ k ≠ 31 ∧ k ≠ 265 ∧ (k ≠ 266 ∨ j = 9) ∧ (k < 267 ∨ 314 < k ∨ (k = 267 ∧ j = 12))) : cX k j = false := by
  obtain ⟨h1, h2, h3, h4, h5⟩ := h
  unfold cX cL
  rw [nbeq h1, nbeq h2, nbeq h3]
  have e1 : (Nat.beq k 266 && !(Nat.beq j 9)) = false := by
    rcases h4 with q | q
    · rw [nbeq q]; rfl
    · rw [q]; cases Nat.beq k 266 <;> rfl
  rw [e1]
  rcases h5 with q | q | ⟨q1, q2⟩
  · cases hq : Nat.ble 267 k
    · rfl
    · rw [Nat.ble_eq] at hq; omega
  · cases hq : Nat.ble k 314
    · cases Nat.ble 267 k <;> rfl
    · rw [Nat.ble_eq] at hq; omega
  · subst q1; subst q2; rfl
theorem cL_X {k j : Nat} (h : cX k j = false) : cL k j = false := by unfold cX at h; rw [Bool.or_eq_false_iff] at h; exact h.1
theorem cA_X {k j : Nat} (h : cX k j = false) : cA0 k j = false := cA0_L (cL_X h)
/-- a moment, but for its cells' change -/
theorem CMo.cf {C : Nat → Nat → Bool} {σ σ' : St} {m : Nat} {B : Bh} {N : Mo} (H : CMo σ m B N) (hs : CF C σ σ') (hC : ∀ k j, m ≤ k → k < m + 11 → C k j = false) : CMo σ' m B N := H.eq (fun r hr => funext fun j => hs.1 _ j (hC _ _ (by omega) (by omega)))
theorem RC.cx {q : Nat} {ρ : Rf} {σ σ' : St} {A : Ab} (H : RC q ρ σ A) (h : CF cX σ σ') : RC q ρ σ' A := by
  obtain ⟨h1, h2, h3, h4, h5, h6, h7, h8, h9, h10, h11⟩ := H
  have hq := h2.2.1
  have eq : ∀ r, r < 15 → r ≠ 14 → σ'.1 (q + r) = σ.1 (q + r) := fun r hr hr2 => funext fun j => h.1 _ _ (cX_f (by omega))
  refine ⟨h1, h2.cf h (fun k j hk => ?_) rfl, ?_, h4.cf h (fun k j k1 k2 => cX_f (by omega)), ?_, ?_, ?_, ?_, ?_, ?_, ?_⟩
  · unfold cB at hk
    simp only [Bool.and_eq_true, Bool.not_eq_true', Nat.blt_eq] at hk
    exact cX_f ⟨fun z => by rw [z] at hk; exact absurd hk.1.2 (by decide), fun z => by rw [z] at hk; exact absurd hk.2 (by decide), by omega, by omega, by omega⟩
  · unfold CNam at h3 ⊢; rw [eq 1 (by decide) (by decide), eq 4 (by decide) (by decide), eq 5 (by decide) (by decide)]; exact h3
  · obtain ⟨g1, o, g2, g3, g4⟩ := h5
    exact ⟨by rw [h.1 43 _ rfl]; exact g1, o, g2, by rw [h.1 43 _ rfl]; exact g3, fun k hk => (g4 k hk).cf h (fun k' j k1 k2 => cX_f (by have := Nat.mod_lt (o + ((aP A).1 - 1 - k)) (show 0 < 20 by decide); omega))⟩
  · unfold CFnd at h6 ⊢; rw [h.1 267 _ rfl]; exact ⟨h6.1, fun j hj => by rw [h.1 315 j rfl]; exact h6.2 j hj⟩
  · rw [h.1 0 _ rfl]; exact h7
  · unfold CTap at h8 ⊢; rw [h.1 0 _ rfl]; exact ⟨h8.1, fun j hj => by rw [h.1 1 j rfl]; exact h8.2 j hj⟩
  · intro j hj; rw [h.1 325 j rfl]; exact h9 j hj
  · rw [h.1 0 _ rfl, h.1 0 _ rfl]; exact h10
  · unfold CImg at h11 ⊢; rw [h.1 0 _ rfl]; exact ⟨h11.1, fun j hj => by rw [h.1 324 j rfl]; exact h11.2 j hj⟩
theorem cX_324 {k j : Nat} (h : 326 ≤ k) : cX k j = false := cX_f (by omega)
theorem RC.pure {q : Nat} {ρ : Rf} {σ σ' : St} {A : Ab} (H : RC q ρ σ A) (h : CF cX σ σ') : RF ρ ∧ upM σ σ' ∧ ∃ q', RC q' ρ σ' A := ⟨H.2.1.1, h.upM (fun _ _ hk => cX_324 hk), q, H.cx h⟩
theorem RC.same {q : Nat} {ρ : Rf} {σ : St} {A : Ab} (H : RC q ρ σ A) : RF ρ ∧ upM σ σ ∧ ∃ q', RC q' ρ σ A := H.pure (CF.rf _ _)
/-- the reference: its cells and fields that nothing rests on -/
def scC (q : Nat) : Bool := Nat.ble 326 q && !(Nat.beq q 327 || Nat.beq q 328 || Nat.beq q 356 || Nat.beq q 357 || Nat.beq q 358 || Nat.beq q 359 || Nat.beq q 360 || Nat.beq q 362 || Nat.beq q 363 || Nat.beq q 364 || Nat.beq q 365 || Nat.beq q 372 || Nat.beq q 374 || Nat.beq q 401 || (Nat.ble 329 q && Nat.ble q 355) || (Nat.ble 375 q && Nat.ble q 397))
theorem wdS_sc : ∀ p, p ∈ wdS → scC p.1 = false := by decide
def scF (j : Nat) : Bool := !(Nat.beq j 1 || Nat.beq j 7 || Nat.beq j 8 || Nat.beq j 53 || Nat.beq j 60 || Nat.beq j 69 || Nat.beq j 73 || Nat.beq j 74 || Nat.beq j 110)
theorem RM.mx {ρ : Rf} {σ σ' : St} {A : Ab} (H : RM ρ σ A) (h : MF scC scF σ σ') : RM ρ σ' A := by
  obtain ⟨h0, ⟨h1, h2, h3, h4⟩, ⟨h5, h5'⟩, h6, h7, h8, h9, h10, h11, ⟨h12, h12'⟩, h13⟩ := H
  refine ⟨h0, ⟨h1.mf h rfl, h2.mf h rfl, h3.mf h rfl, ?_⟩, ⟨by rw [h.2.2 _ rfl]; exact h5, by rw [h.2.2 _ rfl]; exact h5'⟩, ?_, ?_, ?_, ?_, ?_, ?_, ⟨by rw [h.2.2 _ rfl]; exact h12, by rw [h.2.2 _ rfl]; exact h12'⟩, ?_⟩
  · exact ⟨by rw [h.2.1 357 (by decide)]; exact h4.1, by rw [h.2.1 357 (by decide)]; exact h4.2.1, h4.2.2.eq (fun p hp => h.1 p.1 (by have := (wdS_ok p hp).1; omega) (wdS_sc p hp))⟩
  · rw [h.1 365 (by decide) rfl]; exact h6
  · unfold MPas at h7 ⊢; rw [h.2.2 _ rfl, h.2.2 74 rfl, h.1 374 (by decide) rfl]; exact h7
  · unfold MFnd at h8 ⊢; rw [h.2.2 _ rfl, h.1 372 (by decide) rfl]; exact h8
  · rw [h.2.1 326 (by decide)]; exact h9
  · unfold MTap at h10 ⊢; rw [h.2.2 _ rfl, h.1 327 (by decide) rfl]; exact h10
  · rw [h.1 328 (by decide) rfl]; exact h11
  · unfold MImg at h13 ⊢; rw [h.2.2 _ rfl, h.1 401 (by decide) rfl]; exact h13
theorem scC_lt {k : Nat} (h : k < 326) : scC k = false := by
  unfold scC
  cases hq : Nat.ble 326 k
  · rfl
  · rw [Nat.ble_eq] at hq; omega
theorem RM.pure {ρ : Rf} {σ σ' : St} {A : Ab} (H : RM ρ σ A) (h : MF scC scF σ σ') : upC σ σ' ∧ RM ρ σ' A := ⟨h.upC (fun _ hk => scC_lt hk), H.mx h⟩
theorem RM.same {ρ : Rf} {σ : St} {A : Ab} (H : RM ρ σ A) : upC σ σ ∧ RM ρ σ A := H.pure (MF.rf _ _ _)
theorem fS_sc {j : Nat} (h : scF j = false) : fS j = false := by
  unfold scF at h
  simp only [Bool.not_eq_false', Bool.or_eq_true] at h
  rcases h with (((((((h | h) | h) | h) | h) | h) | h) | h) | h <;> (rw [Nat.eq_of_beq_eq_true h]; rfl)
theorem fH_sc {j : Nat} (h : scF j = false) : fH j = false := by
  unfold scF at h
  simp only [Bool.not_eq_false', Bool.or_eq_true] at h
  rcases h with (((((((h | h) | h) | h) | h) | h) | h) | h) | h <;> (rw [Nat.eq_of_beq_eq_true h]; rfl)
theorem MSc.mx {σ σ' : St} (h : MSc σ σ') : MF scC scF σ σ' := h.mf (fun _ hj => fS_sc hj)
theorem MTd.mx {σ σ' : St} {t : Nat} (h : MTd σ σ' t) : MF scC scF σ σ' := (h.mf.wk (fun _ q => q) (fun _ hj => fH_sc hj)).up
/-- what is read of the reference by its beach -/
theorem RM.rd {ρ : Rf} {σ : St} {A : Ab} (H : RM ρ σ A) (hW : WfN (aB A)) : MRd σ (aB A) (aN A).2.1 (wit (aB A)) (aN A).1 := by
  obtain ⟨h0, ⟨h1, h2, h3, h4⟩, ⟨h5, h5'⟩, h6, h7, h8, h9, h10, h11, h12, h13⟩ := H
  refine ⟨h1, h2, h6.2.1, fun b hb => ?_, h6.1⟩
  rw [h5]
  have := hW.2.1
  rw [if_neg (nI_m1 (by omega))]
  exact (h2.2 b hb).2
/-- the plan's cells, what is kept -/
theorem RM.pl {ρ : Rf} {σ : St} {A : Ab} (H : RM ρ σ A) : ∀ j, j < 2 * np (aB A) → σ.1 365 (49 + j) = nI ((aN A).2.2.1 j) := H.2.2.2.1.2.2.1
theorem RM.kp {ρ : Rf} {σ : St} {A : Ab} (H : RM ρ σ A) (hA : WfA A) : MKp σ false (aN A).2.2.2 := ⟨fun q => (by cases q), fun _ => ⟨H.2.2.1.2, hA.2.1.2.2.2, H.2.2.2.1.2.2.2.1, H.2.2.2.1.2.2.2.2⟩⟩
theorem wf9 {A : Ab} (hA : WfA A) (b : Nat) : wit (aB A) b ≤ 9 := hA.1.2.2.2.1 b
