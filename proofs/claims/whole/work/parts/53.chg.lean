/-! The abstract state changed in a part; what stays of both sides. -/
def sN (A : Ab) (N : Mo) : Ab := mkA (aB A) N (aP A) (aF A) (aX A) (aT A) (aR A) (aE A) (aG A)
def sP (A : Ab) (P : Nat × (Nat → Mo)) : Ab := mkA (aB A) (aN A) P (aF A) (aX A) (aT A) (aR A) (aE A) (aG A)
def sF (A : Ab) (F : Nat × (Nat → Nat)) : Ab := mkA (aB A) (aN A) (aP A) F (aX A) (aT A) (aR A) (aE A) (aG A)
def sX (A : Ab) (x : Nat) : Ab := mkA (aB A) (aN A) (aP A) (aF A) x (aT A) (aR A) (aE A) (aG A)
def sT (A : Ab) (T : Nat × (Nat → Nat)) : Ab := mkA (aB A) (aN A) (aP A) (aF A) (aX A) T (aR A) (aE A) (aG A)
def sU (A : Ab) (w : Nat) : Ab := mkA (aB A) (aN A) (aP A) (aF A) (aX A) (aT A) (fun j => if j = w then aR A j + 1 else aR A j) (aE A) (aG A)
def sE (A : Ab) (E : Nat × Int32) : Ab := mkA (aB A) (aN A) (aP A) (aF A) (aX A) (aT A) (aR A) E (aG A)
def sG (A : Ab) (I : Nat × (Nat → Nat)) : Ab := mkA (aB A) (aN A) (aP A) (aF A) (aX A) (aT A) (aR A) (aE A) I
theorem CPas.cf {C : Nat → Nat → Bool} {σ σ' : St} {B : Bh} {P : Nat × (Nat → Mo)} (H : CPas σ B P) (hs : CF C σ σ') (hC : ∀ k j, 43 ≤ k → k < 265 → C k j = false) : CPas σ' B P := by
  obtain ⟨g1, o, g2, g3, g4⟩ := H
  exact ⟨by rw [hs.1 43 _ (hC _ _ (by decide) (by decide))]; exact g1, o, g2, by rw [hs.1 43 _ (hC _ _ (by decide) (by decide))]; exact g3, fun k hk => (g4 k hk).cf hs (fun k' j k1 k2 => hC _ _ (by omega) (by have := Nat.mod_lt (o + (P.1 - 1 - k)) (show 0 < 20 by decide); omega))⟩
theorem CFnd.cf {C : Nat → Nat → Bool} {σ σ' : St} {F : Nat × (Nat → Nat)} (H : CFnd σ F) (hs : CF C σ σ') (h1 : C 267 12 = false) (h2 : ∀ j, C 315 j = false) : CFnd σ' F := ⟨by rw [hs.1 267 _ h1]; exact H.1, fun j hj => by rw [hs.1 315 j (h2 j)]; exact H.2 j hj⟩
theorem CTap.cf {C : Nat → Nat → Bool} {σ σ' : St} {T : Nat × (Nat → Nat)} (H : CTap σ T) (hs : CF C σ σ') (h1 : C 0 1 = false) (h2 : ∀ j, C 1 j = false) : CTap σ' T := ⟨by rw [hs.1 0 _ h1]; exact H.1, fun j hj => by rw [hs.1 1 j (h2 j)]; exact H.2 j hj⟩
theorem CImg.cf {C : Nat → Nat → Bool} {σ σ' : St} {I : Nat × (Nat → Nat)} (H : CImg σ I) (hs : CF C σ σ') (h1 : C 0 12 = false) (h2 : ∀ j, C 324 j = false) : CImg σ' I := ⟨by rw [hs.1 0 _ h1]; exact H.1, fun j hj => by rw [hs.1 324 j (h2 j)]; exact H.2 j hj⟩
/-- the beach stays -/
theorem RC.chg {C : Nat → Nat → Bool} {q : Nat} {ρ : Rf} {σ σ' : St} {A : Ab} (H : RC q ρ σ A) (hs : CF C σ σ') (hC : ∀ k j, (1 < k ∧ k < 32 ∧ k ≠ 16 ∧ k ≠ 31) ∨ (k = 266 ∧ j = 9) → C k j = false) (A' : Ab) (hB : aB A' = aB A) (hn : CMo σ' 32 (aB A) (aN A')) (hp : CPas σ' (aB A) (aP A')) (hf : CFnd σ' (aF A')) (hx : σ'.1 0 16 = nI (aX A')) (ht : CTap σ' (aT A')) (hr : ∀ j, j < 6 → σ'.1 325 j = aR A' j) (he : σ'.1 0 14 = nI (aE A').1 ∧ σ'.1 0 15 = (aE A').2) (hi : CImg σ' (aG A')) : RC q ρ σ' A' := by
  obtain ⟨h1, h2, h3, -⟩ := H
  have hq := h2.2.1
  have eq : ∀ r, r < 15 → r ≠ 14 → σ'.1 (q + r) = σ.1 (q + r) := fun r hr hr2 => funext fun j => hs.1 _ _ (hC _ _ (Or.inl (by omega)))
  unfold RC
  rw [hB]
  refine ⟨h1, h2.cf hs (fun k j hk => hC _ _ (Or.inl ?_)) (hC _ _ (Or.inr ⟨rfl, rfl⟩)), ?_, hn, hp, hf, hx, ht, hr, he, hi⟩
  · unfold cB at hk
    simp only [Bool.and_eq_true, Bool.not_eq_true', Nat.blt_eq] at hk
    exact ⟨hk.1.1.1, hk.1.1.2, fun z => by rw [z] at hk; exact absurd hk.1.2 (by decide), fun z => by rw [z] at hk; exact absurd hk.2 (by decide)⟩
  · unfold CNam at h3 ⊢; rw [eq 1 (by decide) (by decide), eq 4 (by decide) (by decide), eq 5 (by decide) (by decide)]; exact h3
/-- one field of the class's own cell, or of its counts of what was refused -/
def c0 (f : Nat) (k j : Nat) : Bool := Nat.beq k 0 && Nat.beq j f
theorem c0_ne {f k j : Nat} (h : k ≠ 0 ∨ j ≠ f) : c0 f k j = false := by
  unfold c0
  rcases h with h | h
  · rw [nbeq h]; rfl
  · rw [nbeq h, Bool.and_false]
theorem RC.refu {q : Nat} {ρ : Rf} {σ : St} {A : Ab} (H : RC q ρ σ A) {w : Nat} (hw : w < 6) : RC q ρ (bump σ 325 w) (sU A w) := by
  have hs : CF (fun k _ => Nat.beq k 325) σ (bump σ 325 w) := CF.cell σ _ (fun _ => rfl)
  have hne : ∀ k j : Nat, k ≠ 325 → (fun k (_ : Nat) => Nat.beq k 325) k j = false := fun k j h => nbeq h
  have H' := H
  obtain ⟨h1, h2, h3, h4, h5, h6, h7, h8, h9, h10, h11⟩ := H
  refine H'.chg hs (fun k j hk => hne k j (by omega)) (sU A w) rfl (h4.cf hs (fun k j k1 k2 => hne k j (by omega))) (h5.cf hs (fun k j k1 k2 => hne k j (by omega))) (h6.cf hs rfl (fun _ => rfl)) ?_ (h8.cf hs rfl (fun _ => rfl)) (fun j hj => ?_) ?_ (h11.cf hs rfl (fun _ => rfl))
  · rw [hs.1 0 _ rfl]; exact h7
  · show (bump σ 325 w).1 325 j = if j = w then aR A j + 1 else aR A j
    unfold bump
    rw [sR_0]
    by_cases hq : j = w
    · subst hq; rw [pk_us, if_pos rfl, h9 j hj]
    · rw [pk_un hq, if_neg hq, h9 j hj]
  · rw [hs.1 0 _ rfl, hs.1 0 _ rfl]; exact h10
theorem upM.bump (σ : St) {w : Nat} : upM σ (bump σ 325 w) := upM.put σ _ (by decide)
theorem WfA.refu {A : Ab} (h : WfA A) (w : Nat) : WfA (sU A w) := h
/-- the reference: its beach stays -/
theorem RM.chg {C Fd : Nat → Bool} {ρ : Rf} {σ σ' : St} {A : Ab} (H : RM ρ σ A) (hs : MF C Fd σ σ') (hC : (C 356 || C 358 || C 359 || C 360 || C 362 || C 363 || C 364 || wdX C) = false) (A' : Ab) (hB : aB A' = aB A) (ht : σ'.1 326 53 = -1 ∧ σ'.1 326 60 = 0) (hn : MMo (σ'.1 365) (aB A) (aN A')) (hp : MPas σ' (aB A) (aP A')) (hf : MFnd σ' (aF A')) (hx : σ'.2 326 75 = lI ((aX A' : Nat) : Int)) (hta : MTap σ' (aT A')) (hr : ∀ j, j < 6 → σ'.1 328 j = aR A' j) (he : σ'.1 326 7 = nI (aE A').1 ∧ σ'.1 326 8 = (aE A').2) (hi : MImg σ' (aG A')) : RM ρ σ' A' := by
  obtain ⟨h0, ⟨h1, h2, h3, h4⟩, -⟩ := H
  simp only [Bool.or_eq_false_iff] at hC
  obtain ⟨⟨⟨⟨⟨⟨⟨c1, c2⟩, c3⟩, c4⟩, c5⟩, c6⟩, c7⟩, c8⟩ := hC
  unfold RM
  rw [hB]
  refine ⟨h0, ⟨h1.mf hs c1, h2.mf hs (by rw [c2, c3, c4]; rfl), h3.mf hs (by rw [c5, c6, c7]; rfl), ?_⟩, ht, hn, hp, hf, hx, hta, hr, he, hi⟩
  exact ⟨by rw [hs.2.1 357 (by decide)]; exact h4.1, by rw [hs.2.1 357 (by decide)]; exact h4.2.1, h4.2.2.eq (fun p hp => hs.1 p.1 (by have := (wdS_ok p hp).1; omega) (wdX_f c8 p hp))⟩
theorem MPas.mf {C Fd : Nat → Bool} {σ σ' : St} {B : Bh} {P : Nat × (Nat → Mo)} (H : MPas σ B P) (hs : MF C Fd σ σ') (hC : C 374 = false) (hF : (Fd 73 || Fd 74) = false) : MPas σ' B P := by
  rw [Bool.or_eq_false_iff] at hF
  unfold MPas at H ⊢
  rw [hs.2.2 _ hF.1, hs.2.2 _ hF.2, hs.1 374 (by decide) hC]; exact H
theorem MFnd.mf {C Fd : Nat → Bool} {σ σ' : St} {F : Nat × (Nat → Nat)} (H : MFnd σ F) (hs : MF C Fd σ σ') (hC : C 372 = false) (hF : Fd 69 = false) : MFnd σ' F := by
  unfold MFnd at H ⊢
  rw [hs.2.2 _ hF, hs.1 372 (by decide) hC]; exact H
theorem MTap.mf {C Fd : Nat → Bool} {σ σ' : St} {T : Nat × (Nat → Nat)} (H : MTap σ T) (hs : MF C Fd σ σ') (hC : C 327 = false) (hF : Fd 1 = false) : MTap σ' T := by
  unfold MTap at H ⊢
  rw [hs.2.2 _ hF, hs.1 327 (by decide) hC]; exact H
theorem MImg.mf {C Fd : Nat → Bool} {σ σ' : St} {I : Nat × (Nat → Nat)} (H : MImg σ I) (hs : MF C Fd σ σ') (hC : C 401 = false) (hF : Fd 110 = false) : MImg σ' I := by
  unfold MImg at H ⊢
  rw [hs.2.2 _ hF, hs.1 401 (by decide) hC]; exact H
theorem RM.refu {ρ : Rf} {σ : St} {A : Ab} (H : RM ρ σ A) {w : Nat} (hw : w < 6) : RM ρ (bump σ 328 w) (sU A w) := by
  have hs : MF (fun q => Nat.beq q 328) cN0 σ (bump σ 328 w) := MF.cell _ (by decide) rfl
  have H' := H
  obtain ⟨h0, h1, h5, h6, h7, h8, h9, h10, h11, h12, h13⟩ := H
  refine H'.chg hs rfl (sU A w) rfl ?_ ?_ (h7.mf hs rfl rfl) (h8.mf hs rfl rfl) ?_ (h10.mf hs rfl rfl) (fun j hj => ?_) ?_ (h13.mf hs rfl rfl)
  · rw [hs.2.2 _ rfl, hs.2.2 _ rfl]; exact h5
  · rw [hs.1 365 (by decide) rfl]; exact h6
  · rw [hs.2.1 326 (by decide)]; exact h9
  · show (bump σ 328 w).1 328 j = if j = w then aR A j + 1 else aR A j
    unfold bump
    rw [sR_0]
    by_cases hq : j = w
    · subst hq; rw [pk_us, if_pos rfl, h11 j hj]
    · rw [pk_un hq, if_neg hq, h11 j hj]
  · rw [hs.2.2 _ rfl, hs.2.2 _ rfl]; exact h12
theorem upC.bump (σ : St) {w : Nat} : upC σ (bump σ 328 w) := upC.put σ _ (by decide)
