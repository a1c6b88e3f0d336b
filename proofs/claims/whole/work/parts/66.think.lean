/-! What is thought of, tried and taken back: the reference. -/
def cTi (q : Nat) : Bool := scC q || Nat.beq q 365
def fTi (j : Nat) : Bool := scF j || Nat.beq j 53 || Nat.beq j 60
theorem scC_Ti {q : Nat} (h : cTi q = false) : scC q = false := by unfold cTi at h; rw [Bool.or_eq_false_iff] at h; exact h.1
theorem scF_Ti {j : Nat} (h : fTi j = false) : scF j = false := by unfold fTi at h; simp only [Bool.or_eq_false_iff] at h; exact h.1.1
theorem cAN_Ti {q : Nat} (h : cTi q = false) : cAN q = false := by
  have h1 := scC_Ti h
  unfold cAN
  rw [Bool.or_eq_false_iff]
  constructor
  · cases hq : Nat.beq q 368
    · rfl
    · rw [Nat.eq_of_beq_eq_true hq] at h1; cases h1
  · unfold cTi at h; rw [Bool.or_eq_false_iff] at h; exact h.2
theorem fH_Ti {j : Nat} (h : fTi j = false) : fH j = false := fH_sc (scF_Ti h)
theorem mf_ti {σ σ' : St} (h : MF cAN fH σ σ') : MF cTi fTi σ σ' := h.wk (fun _ q => cAN_Ti q) (fun _ q => fH_Ti q)
theorem sc_ti {σ σ' : St} (h : MF scC scF σ σ') : MF cTi fTi σ σ' := h.wk (fun _ q => scC_Ti q) (fun _ q => scF_Ti q)
/-- in thought: the strengths, the wits, the hour, the plan thought of; from σ0 on -/
def MTh (σ0 : St) (B : Bh) (S : Str) (W : Nat → Nat) (h : Nat) (P : Nat → Nat) (σ : St) : Prop := MF cTi fTi σ0 σ ∧ MRd σ B S W h ∧ (∀ j, j < 2 * np B → σ.1 365 (49 + j) = nI (P j)) ∧ σ.1 326 60 = 1 ∧ (∀ j, 81 ≤ j → σ.1 365 j = σ0.1 365 j) ∧ (∀ j, j < 81 → σ.1 366 j = σ0.1 365 j) ∧ MFrm σ B
theorem MFrm.ti {σ σ' : St} {B : Bh} (H : MFrm σ B) (hs : MF cTi fTi σ σ') : MFrm σ' B := H.mf hs rfl
/-- what leaves the moment, the plan and what is put aside -/
theorem MTh.sc {C Fd : Nat → Bool} {σ0 σ σ' : St} {B : Bh} {S : Str} {W : Nat → Nat} {h : Nat} {P : Nat → Nat} (H : MTh σ0 B S W h P σ) (hs : MF C Fd σ σ') (hC : (C 356 || C 358 || C 359 || C 360 || C 365) = false) (hC2 : C 366 = false) (hF : (Fd 53 || Fd 54) = false) (hF2 : Fd 60 = false) (hw : ∀ q, cTi q = false → C q = false) (hw2 : ∀ j, fTi j = false → Fd j = false) : MTh σ0 B S W h P σ' := by
  obtain ⟨h1, h2, h3, h4, h5, h6, h7⟩ := H
  have e : σ'.1 365 = σ.1 365 := hs.1 _ (by decide) (by simp only [Bool.or_eq_false_iff] at hC; exact hC.2)
  exact ⟨h1.tr (hs.wk hw hw2), h2.mf hs hC hF, fun j hj => by rw [e]; exact h3 j hj, by rw [hs.2.2 _ hF2]; exact h4, fun j hj => by rw [e]; exact h5 j hj, fun j hj => by rw [hs.1 366 (by decide) hC2]; exact h6 j hj, h7.ti (hs.wk hw hw2)⟩
theorem MTh.msc {σ0 σ σ' : St} {B : Bh} {S : Str} {W : Nat → Nat} {h : Nat} {P : Nat → Nat} (H : MTh σ0 B S W h P σ) (hs : MSc σ σ') : MTh σ0 B S W h P σ' := H.sc (C := cN0) (Fd := fS) (hs.mf (fun _ q => q)) rfl rfl rfl rfl (fun _ _ => rfl) (fun _ q => fS_sc (scF_Ti q))
theorem MTh.mtd {σ0 σ σ' : St} {B : Bh} {S : Str} {W : Nat → Nat} {h t : Nat} {P : Nat → Nat} (H : MTh σ0 B S W h P σ) (hs : MTd σ σ' t) : MTh σ0 B S W h P σ' := H.sc (C := cN0) (Fd := fH) hs.mf rfl rfl rfl rfl (fun _ _ => rfl) (fun _ q => fH_Ti q)
theorem MTh.hh {σ0 σ σ' : St} {B : Bh} {S : Str} {W : Nat → Nat} {h n : Nat} {P : Nat → Nat} {K : Nat × (Nat → Nat)} (hW : WfN B) (H : MTh σ0 B S W h P σ) (hq : HhQ B P S W h n true K σ σ') : MTh σ0 B (adS B P W h n S) W (h + n) P σ' := by
  obtain ⟨h1, h2, h3, h4, h5, h6, h7⟩ := H
  obtain ⟨q1, q2, q3, q4, q5, q6⟩ := hq
  have n16 := hW.2.2.2.1
  exact ⟨h1.tr (mf_ti q1), q2, fun j hj => by rw [q3 _ (by omega) (by omega)]; exact h3 j hj, q5.1 rfl, fun j hj => by rw [q4 rfl j hj]; exact h5 j hj, fun j hj => by rw [q1.1 366 (by decide) rfl]; exact h6 j hj, h7.ti (mf_ti q1)⟩
section S66
variable {l : Launch} {X : Cx} {ρ : Rf}
theorem m_thinks (d : Nat) {σ : St} {A : Ab} (hM : RM ρ σ A) (hW : WfN (aB A)) : T l X (d + 1) 214 [.ref 326] 402 402 ρ σ (fun v ρ' σ' => v = none ∧ ρ' = ρ ∧ MTh σ (aB A) (aN A).2.1 (wit (aB A)) (aN A).1 (aN A).2.2.1 σ') := by
  refine (m_putsAside _ hM.1).mono (fun v ρ' σ' hq => ?_)
  obtain ⟨rfl, rfl, f, rfl, hf⟩ := hq
  have hs : MF (fun q => Nat.beq q 366) (fun j => Nat.beq j 60) σ (sI (sI σ 326 (upd (σ.1 326) 60 1)) 366 f) := (MF.put _ rfl).tr (MF.cell f (by decide) rfl)
  have hs2 : MF cTi fTi σ (sI (sI σ 326 (upd (σ.1 326) 60 1)) 366 f) := (MF.put _ rfl).tr (MF.cell f (by decide) rfl)
  refine ⟨rfl, rfl, hs2, (hM.rd hW).mf hs rfl rfl, fun j hj => by rw [hs.1 365 (by decide) rfl]; exact hM.pl j hj, by rw [sR_1 _ _ (by decide), sR_0, pk_us], fun j _ => by rw [hs.1 365 (by decide) rfl], fun j hj => by rw [sR_0]; exact hf j hj, hM.2.1.2.2.1.ti hs2⟩
theorem mkp_th {σ0 σ : St} {B : Bh} {S : Str} {W : Nat → Nat} {h : Nat} {P : Nat → Nat} (H : MTh σ0 B S W h P σ) (K : Nat × (Nat → Nat)) : MKp σ true K := ⟨fun _ => H.2.2.2.1, fun q => (by cases q)⟩
theorem m_thHours (d : Nat) {σ0 σ : St} {B : Bh} {S : Str} {W : Nat → Nat} {h n : Nat} {P : Nat → Nat} (hρ : RF ρ) (H : MTh σ0 B S W h P σ) (hW : WfN B) (hWt : WfT B) (hWf : WfF B) (hS : WfS B S) (hP : WfP B P) (hWb : ∀ b, W b ≤ 9) (hh : h + n ≤ 2000) :
    T l X (d + 8) 213 [.ref 326, .int (nI n)] 402 402 ρ σ (fun v ρ' σ' => v = none ∧ ρ' = ρ ∧ MTh σ0 B (adS B P W h n S) W (h + n) P σ') := by
  refine (m_hoursGo _ (th := true) (K := (0, fun _ => 0)) hρ H.2.1 H.2.2.2.2.2.2 hW hWt hWf hS hP H.2.2.1 hWb hh (mkp_th H _)).mono (fun v ρ' σ' hq => ?_)
  obtain ⟨rfl, rfl, hq⟩ := hq
  exact ⟨rfl, rfl, H.hh hW hq⟩
/-- tried anew: as it was -/
theorem m_thAnew (d : Nat) {σ0 σ : St} {A : Ab} {S : Str} {W : Nat → Nat} {h : Nat} {P : Nat → Nat} (hM : RM ρ σ0 A) (hW : WfN (aB A)) (H : MTh σ0 (aB A) S W h P σ) : T l X (d + 1) 215 [.ref 326] 402 402 ρ σ (fun v ρ' σ' => v = none ∧ ρ' = ρ ∧ MTh σ0 (aB A) (aN A).2.1 W (aN A).1 (aN A).2.2.1 σ') := by
  refine (m_triesAnew _ hM.1).mono (fun v ρ' σ' hq => ?_)
  obtain ⟨rfl, rfl, f, rfl, hf⟩ := hq
  obtain ⟨h1, h2, h3, h4, h5, h6, h7⟩ := H
  have n16 := hW.2.2.2.1
  have e : f = σ0.1 365 := by
    funext j
    rw [hf j]
    by_cases hj : j < 81
    · rw [if_pos hj, h6 j hj]
    · rw [if_neg hj, h5 j (by omega)]
  subst e
  have hs : MF (fun q => Nat.beq q 365) cN0 σ (sI σ 365 (σ0.1 365)) := MF.cell _ (by decide) rfl
  have hs2 : MF cTi fTi σ (sI σ 365 (σ0.1 365)) := MF.cell _ (by decide) rfl
  refine ⟨rfl, rfl, h1.tr hs2, h2.mfn hs rfl rfl (fun b i hb hi => by rw [sR_0]; exact hM.2.2.2.1.2.1 b i hb hi) (by rw [sR_0]; exact hM.2.2.2.1.1), fun j hj => by rw [sR_0]; exact hM.pl j hj, by rw [sR_1 _ _ (by decide)]; exact h4, fun j _ => by rw [sR_0], fun j hj => by rw [sR_1 _ _ (by decide)]; exact h6 j hj, h7.ti hs2⟩
/-- taken back: all is as it was -/
theorem m_thBack (d : Nat) {σ0 σ : St} {A : Ab} {S : Str} {W : Nat → Nat} {h : Nat} {P : Nat → Nat} (hM : RM ρ σ0 A) (H : MTh σ0 (aB A) S W h P σ) : T l X (d + 2) 216 [.ref 326] 402 402 ρ σ (fun v ρ' σ' => v = none ∧ ρ' = ρ ∧ MF scC scF σ0 σ' ∧ ∀ q, q ≠ 326 → q ≠ 365 → σ'.1 q = σ.1 q) := by
  refine (m_takesBack _ hM.1).mono (fun v ρ' σ' hq => ?_)
  obtain ⟨rfl, rfl, f, rfl, hf⟩ := hq
  obtain ⟨h1, h2, h3, h4, h5, h6, h7⟩ := H
  have e : f = σ0.1 365 := by
    funext j
    rw [hf j]
    by_cases hj : j < 81
    · rw [if_pos hj, h6 j hj]
    · rw [if_neg hj, h5 j (by omega)]
  subst e
  refine ⟨rfl, rfl, ⟨fun q hq hc => ?_, fun q hq => h1.2.1 q hq, fun j hj => ?_⟩, fun q q1 q2 => by rw [sR_1 _ _ q1, sR_1 _ _ q2]⟩
  · rw [sR_1 _ _ hq]
    by_cases hn : q = 365
    · subst hn; rw [sR_0]
    · rw [sR_1 _ _ hn]
      exact h1.1 q hq (by unfold cTi; rw [hc, nbeq hn]; rfl)
  · rw [sR_0]
    by_cases j1 : j = 60
    · subst j1; rw [pk_us]; exact hM.2.2.1.2.symm
    · rw [pk_un j1]
      by_cases j2 : j = 53
      · subst j2; rw [pk_us]; exact hM.2.2.1.1.symm
      · rw [pk_un j2]
        exact h1.2.2 j (by unfold fTi; rw [hj, nbeq j1, nbeq j2]; rfl)
end S66
