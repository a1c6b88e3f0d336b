/-! The tape, the seed, the moment, what can be undone: changed on both sides. -/
theorem c0_self (f : Nat) : c0 f 0 f = true := by unfold c0; rw [Nat.beq_refl, Nat.beq_refl]; rfl
theorem RC.tape {q : Nat} {ρ : Rf} {σ : St} {A : Ab} (H : RC q ρ σ A) {k : Nat} (hk : k ≤ (aT A).1) : RC q ρ (sI σ 0 (upd (σ.1 0) 1 (nI k))) (sT A (k, (aT A).2)) := by
  have hs : CF (c0 1) σ (sI σ 0 (upd (σ.1 0) 1 (nI k))) := CF.put σ _ rfl
  have H' := H
  obtain ⟨h1, h2, h3, h4, h5, h6, h7, h8, h9, h10, h11⟩ := H
  refine H'.chg hs (fun k j hk => c0_ne (by omega)) (sT A (k, (aT A).2)) rfl (h4.cf hs (fun k j k1 k2 => c0_ne (by omega))) (h5.cf hs (fun k j k1 k2 => c0_ne (by omega))) (h6.cf hs rfl (fun _ => rfl)) ?_ ⟨?_, fun j hj => ?_⟩ (fun j hj => ?_) ?_ (h11.cf hs rfl (fun _ => rfl))
  · rw [hs.1 0 _ rfl]; exact h7
  · rw [sR_0, pk_us]; rfl
  · rw [hs.1 1 j rfl]; exact h8.2 j (Nat.lt_of_lt_of_le hj hk)
  · rw [hs.1 325 j rfl]; exact h9 j hj
  · rw [hs.1 0 _ rfl, hs.1 0 _ rfl]; exact h10
theorem RC.sd {q : Nat} {ρ : Rf} {σ : St} {A : Ab} (H : RC q ρ σ A) (x : Nat) : RC q ρ (sI σ 0 (upd (σ.1 0) 16 (nI x))) (sX A x) := by
  have hs : CF (c0 16) σ (sI σ 0 (upd (σ.1 0) 16 (nI x))) := CF.put σ _ rfl
  have H' := H
  obtain ⟨h1, h2, h3, h4, h5, h6, h7, h8, h9, h10, h11⟩ := H
  refine H'.chg hs (fun k j hk => c0_ne (by omega)) (sX A x) rfl (h4.cf hs (fun k j k1 k2 => c0_ne (by omega))) (h5.cf hs (fun k j k1 k2 => c0_ne (by omega))) (h6.cf hs rfl (fun _ => rfl)) ?_ (h8.cf hs rfl (fun _ => rfl)) (fun j hj => ?_) ?_ (h11.cf hs rfl (fun _ => rfl))
  · rw [sR_0, pk_us]; rfl
  · rw [hs.1 325 j rfl]; exact h9 j hj
  · rw [hs.1 0 _ rfl, hs.1 0 _ rfl]; exact h10
/-- scratch, now, the past -/
def cNP (k j : Nat) : Bool := cX k j || (Nat.ble 32 k && Nat.ble k 264)
theorem cNP_f {k j : Nat} (h : cX k j = false) (h2 : k < 32 ∨ 264 < k) : cNP k j = false := by
  unfold cNP
  rw [h]
  rcases h2 with q | q
  · cases hq : Nat.ble 32 k
    · rfl
    · rw [Nat.ble_eq] at hq; omega
  · cases hq : Nat.ble k 264
    · cases Nat.ble 32 k <;> rfl
    · rw [Nat.ble_eq] at hq; omega
theorem cX_NP {k j : Nat} (h : cNP k j = false) : cX k j = false := by unfold cNP at h; rw [Bool.or_eq_false_iff] at h; exact h.1
theorem cNP_in {k j : Nat} (h1 : 32 ≤ k) (h2 : k ≤ 264) : cNP k j = true := by unfold cNP; rw [Nat.ble_eq.mpr h1, Nat.ble_eq.mpr h2]; cases cX k j <;> rfl
theorem RC.nowP {q : Nat} {ρ : Rf} {σ σ' : St} {A : Ab} (H : RC q ρ σ A) (hs : CF cNP σ σ') {N : Mo} {P : Nat × (Nat → Mo)} (hn : CMo σ' 32 (aB A) N) (hp : CPas σ' (aB A) P) : RC q ρ σ' (sP (sN A N) P) := by
  have H' := H
  obtain ⟨h1, h2, h3, h4, h5, h6, h7, h8, h9, h10, h11⟩ := H
  refine H'.chg hs (fun k j hk => cNP_f (cX_f (by omega)) (by omega)) (sP (sN A N) P) rfl hn hp (h6.cf hs rfl (fun _ => rfl)) ?_ (h8.cf hs rfl (fun _ => rfl)) (fun j hj => ?_) ?_ (h11.cf hs rfl (fun _ => rfl))
  · rw [hs.1 0 _ rfl]; exact h7
  · rw [hs.1 325 j rfl]; exact h9 j hj
  · rw [hs.1 0 _ rfl, hs.1 0 _ rfl]; exact h10
theorem cNP_up {σ σ' : St} (hs : CF cNP σ σ') : upM σ σ' := hs.upM (fun k j hk => cNP_f (cX_324 hk) (by omega))
/-- the reference -/
def scK (q : Nat) : Bool := scC q || Nat.beq q 365 || Nat.beq q 374
def scG (j : Nat) : Bool := scF j || Nat.beq j 73 || Nat.beq j 74
theorem scC_K {q : Nat} (h : scK q = false) : scC q = false := by unfold scK at h; simp only [Bool.or_eq_false_iff] at h; exact h.1.1
theorem scF_G {j : Nat} (h : scG j = false) : scF j = false := by unfold scG at h; simp only [Bool.or_eq_false_iff] at h; exact h.1.1
theorem fH_G {j : Nat} (h : scG j = false) : fH j = false := fH_sc (scF_G h)
theorem fK_G {j : Nat} (h : scG j = false) : fK j = false := by
  unfold scG at h
  simp only [Bool.or_eq_false_iff] at h
  unfold fK
  rw [h.1.2, h.2]; rfl
theorem cK_K {q : Nat} (h : scK q = false) : cK q = false := by unfold scK at h; simp only [Bool.or_eq_false_iff] at h; exact h.2
theorem cAN_K {q : Nat} (h : scK q = false) : cAN q = false := by
  unfold cAN
  rw [Bool.or_eq_false_iff]
  constructor
  · cases hq : Nat.beq q 368
    · rfl
    · rw [Nat.eq_of_beq_eq_true hq] at h; cases h
  · unfold scK at h; simp only [Bool.or_eq_false_iff] at h; exact h.1.2
theorem scK_lt {k : Nat} (h : k < 326) : scK k = false := by unfold scK; rw [scC_lt h, nbeq (by omega), nbeq (by omega)]; rfl
theorem RM.nowP {ρ : Rf} {σ σ' : St} {A : Ab} (H : RM ρ σ A) (hs : MF scK scG σ σ') {N : Mo} {P : Nat × (Nat → Mo)} (hn : MMo (σ'.1 365) (aB A) N) (hp : MPas σ' (aB A) P) : RM ρ σ' (sP (sN A N) P) := by
  have H' := H
  obtain ⟨h0, h1, h5, h6, h7, h8, h9, h10, h11, h12, h13⟩ := H
  refine H'.chg hs rfl (sP (sN A N) P) rfl ?_ hn hp (h8.mf hs rfl rfl) ?_ (h10.mf hs rfl rfl) (fun j hj => ?_) ?_ (h13.mf hs rfl rfl)
  · rw [hs.2.2 _ rfl, hs.2.2 _ rfl]; exact h5
  · rw [hs.2.1 326 (by decide)]; exact h9
  · rw [hs.1 328 (by decide) rfl]; exact h11 j hj
  · rw [hs.2.2 _ rfl, hs.2.2 _ rfl]; exact h12
theorem RM.tape {ρ : Rf} {σ : St} {A : Ab} (H : RM ρ σ A) {k : Nat} (hk : k ≤ (aT A).1) : RM ρ (sI σ 326 (upd (σ.1 326) 1 (nI k))) (sT A (k, (aT A).2)) := by
  have hs : MF cN0 (fun j => Nat.beq j 1) σ (sI σ 326 (upd (σ.1 326) 1 (nI k))) := MF.put _ rfl
  have H' := H
  obtain ⟨h0, h1, h5, h6, h7, h8, h9, h10, h11, h12, h13⟩ := H
  refine H'.chg hs rfl (sT A (k, (aT A).2)) rfl ?_ ?_ (h7.mf hs rfl rfl) (h8.mf hs rfl rfl) ?_ ⟨?_, fun j hj => ?_⟩ (fun j hj => ?_) ?_ (h13.mf hs rfl rfl)
  · rw [hs.2.2 _ rfl, hs.2.2 _ rfl]; exact h5
  · rw [hs.1 365 (by decide) rfl]; exact h6
  · rw [hs.2.1 326 (by decide)]; exact h9
  · rw [sR_0, pk_us]; rfl
  · rw [hs.1 327 (by decide) rfl]; exact h10.2 j (Nat.lt_of_lt_of_le hj hk)
  · rw [hs.1 328 (by decide) rfl]; exact h11 j hj
  · rw [hs.2.2 _ rfl, hs.2.2 _ rfl]; exact h12
theorem RM.sd {ρ : Rf} {σ : St} {A : Ab} (H : RM ρ σ A) (x : Nat) : RM ρ (sL σ 326 (vp_updL (σ.2 326) 75 (lI ((x : Nat) : Int)))) (sX A x) := by
  obtain ⟨h0, ⟨g1, g2, g3, g4⟩, h5, h6, h7, h8, h9, h10, h11, h12, h13⟩ := H
  exact ⟨h0, ⟨g1, g2, g3, g4⟩, h5, h6, h7, h8, (by rw [sL_2, if_pos rfl]; exact if_pos rfl), h10, h11, h12, h13⟩
theorem WfA.tape {A : Ab} (h : WfA A) {k : Nat} (hk : k ≤ (aT A).1) : WfA (sT A (k, (aT A).2)) := by
  obtain ⟨h1, h2, h3, h4, h5, h6, h7⟩ := h
  exact ⟨h1, h2, h3, h4, h5, ⟨Nat.le_trans hk h6.1, h6.2⟩, h7⟩
theorem WfA.sd {A : Ab} (h : WfA A) {x : Nat} (hx : x < 2147483648) : WfA (sX A x) := by
  obtain ⟨h1, h2, h3, h4, h5, h6, h7⟩ := h
  exact ⟨h1, h2, h3, h4, hx, h6, h7⟩
theorem WfA.nowP {A : Ab} (h : WfA A) {N : Mo} (hN : WfM (aB A) N) : WfA (sP (sN A N) (pushP (aP A) (aN A))) := by
  obtain ⟨h1, h2, h3, h4, h5, h6, h7⟩ := h
  refine ⟨h1, hN, ⟨?_, fun k hk => ?_⟩, h4, h5, h6, h7⟩
  · show (pushP (aP A) (aN A)).1 ≤ 20
    unfold pushP
    by_cases hc : (aP A).1 < 20
    · simp only [if_pos hc]; omega
    · simp only [if_neg hc]; omega
  · have hk : k < (pushP (aP A) (aN A)).1 := hk
    show WfM (aB A) ((pushP (aP A) (aN A)).2 k)
    unfold pushP at hk ⊢
    by_cases h0 : k = 0
    · simp only [if_pos h0]; exact h2
    · simp only [if_neg h0]
      refine h3.2 _ ?_
      have h20 := h3.1
      by_cases hc : (aP A).1 < 20
      · simp only [if_pos hc] at hk; omega
      · simp only [if_neg hc] at hk; omega
section S54
variable {l : Launch} {X : Cx}
theorem op_end (a : Int32) : OpI l X InvA 105 166 [.int a] := by
  refine op_of (fun A q ρ σ hA hC hρ => ?_)
  have hl := hA.2.2.2.2.2.1.1
  have hT := hC.2.2.2.2.2.2.2.1
  by_cases h : hasF ((aT A).1 + 1) a = true
  · obtain ⟨k, hk, rfl⟩ := hasF_of h
    refine ⟨1, sT A (k, (aT A).2), hA.tape (by omega), ?_, fun ρ σ hM => ?_⟩
    · refine (t_endOk _ hT.1 hl (by omega)).mono (fun v ρ' σ' hq => ?_)
      obtain ⟨rfl, rfl, rfl⟩ := hq
      exact ⟨rfl, hρ, upM.put _ _ (by decide), q, hC.tape (by omega)⟩
    · refine (m_endOk _ hM.2.2.2.2.2.2.2.1.1 hl (by omega)).mono (fun v ρ' σ' hq => ?_)
      obtain ⟨rfl, rfl, rfl⟩ := hq
      exact ⟨rfl, rfl, upC.put _ _ (by decide), hM.tape (by omega)⟩
  · have hno : ∀ y : Int32, y = nI (aT A).1 → a < 0 ∨ ¬ a ≤ y := fun y hy => by
      subst hy
      have e0 : (0 : Int32).toInt = 0 := rfl
      rw [Int32.lt_iff_toInt_lt, Int32.le_iff_toInt_le, nI_toInt (by omega), e0]
      have h2 : ¬ (0 ≤ a.toInt ∧ a.toInt < (((aT A).1 + 1 : Nat) : Int)) := fun q => h (decide_eq_true q)
      omega
    refine ⟨0, sU A 0, hA.refu 0, ?_, fun ρ σ hM => ?_⟩
    · refine (t_endNo _ hρ (hno _ hT.1)).mono (fun v ρ' σ' hq => ?_)
      obtain ⟨rfl, rfl, rfl⟩ := hq
      exact ⟨rfl, hρ, upM.bump _, q, hC.refu (by decide)⟩
    · refine (m_endNo _ hM.1 (hno _ hM.2.2.2.2.2.2.2.1.1)).mono (fun v ρ' σ' hq => ?_)
      obtain ⟨rfl, rfl, rfl⟩ := hq
      exact ⟨rfl, rfl, upC.bump _, hM.refu (by decide)⟩
theorem op_seed (a : Int32) : OpI l X InvA 138 259 [.int a] := by
  refine op_of (fun A q ρ σ hA hC hρ => ?_)
  by_cases h : a < 0
  · refine ⟨0, sU A 5, hA.refu 5, ?_, fun ρ σ hM => ?_⟩
    · refine (t_seedNo _ hρ a h).mono (fun v ρ' σ' hq => ?_)
      obtain ⟨rfl, rfl, rfl⟩ := hq
      exact ⟨rfl, hρ, upM.bump _, q, hC.refu (by decide)⟩
    · refine (m_seedNo _ hM.1 a h).mono (fun v ρ' σ' hq => ?_)
      obtain ⟨rfl, rfl, rfl⟩ := hq
      exact ⟨rfl, rfl, upC.bump _, hM.refu (by decide)⟩
  · obtain ⟨k, hk, rfl⟩ := nI_of h
    refine ⟨1, sX A k, hA.sd (by omega), ?_, fun ρ σ hM => ?_⟩
    · refine (t_seed _ hρ _ h).mono (fun v ρ' σ' hq => ?_)
      obtain ⟨rfl, rfl, rfl⟩ := hq
      exact ⟨rfl, hρ, upM.put _ _ (by decide), q, hC.sd k⟩
    · refine (m_seed _ hM.1 _ h).mono (fun v ρ' σ' hq => ?_)
      obtain ⟨rfl, rfl, rfl⟩ := hq
      rw [nI_lI k hk]
      exact ⟨rfl, rfl, upC.putL _ _ _, hM.sd k⟩
end S54
