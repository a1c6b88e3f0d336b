/-! Moments copied, pushed, popped: the class; stored: the reference. -/
def mmC (k : Nat) : Nat := if k = 20 then 32 else if k = 21 then 268 else 45 + 11 * k
def MomO (ρ : Rf) (m : Nat) : Prop := isO 402 m 4 = true ∧ ρ m 1 = some (m + 1) ∧ (isA 402 (m + 1) 4 = true ∧ (shp (m + 1)).2 = 6) ∧ (∀ b, b < 6 → ρ (m + 1) b = some (m + 2 + b) ∧ isA 402 (m + 2 + b) 0 = true ∧ (shp (m + 2 + b)).2 = 8) ∧ (ρ m 3 = some (m + 8) ∧ isA 402 (m + 8) 0 = true ∧ (shp (m + 8)).2 = 16) ∧ (ρ m 4 = some (m + 9) ∧ isA 402 (m + 9) 0 = true ∧ (shp (m + 9)).2 = 16) ∧ ρ m 5 = some (m + 10) ∧ isA 402 (m + 10) 0 = true ∧ (shp (m + 10)).2 = 160
theorem mm_ok : ∀ k, k < 22 → (isO 402 (mmC k) 4 = true ∧ t0 (mmC k) 1 = some (mmC k + 1) ∧ (isA 402 (mmC k + 1) 4 = true ∧ (shp (mmC k + 1)).2 = 6) ∧ (∀ b, b < 6 → t0 (mmC k + 1) b = some (mmC k + 2 + b) ∧ isA 402 (mmC k + 2 + b) 0 = true ∧ (shp (mmC k + 2 + b)).2 = 8) ∧ (t0 (mmC k) 3 = some (mmC k + 8) ∧ isA 402 (mmC k + 8) 0 = true ∧ (shp (mmC k + 8)).2 = 16) ∧ (t0 (mmC k) 4 = some (mmC k + 9) ∧ isA 402 (mmC k + 9) 0 = true ∧ (shp (mmC k + 9)).2 = 16) ∧ t0 (mmC k) 5 = some (mmC k + 10) ∧ isA 402 (mmC k + 10) 0 = true ∧ (shp (mmC k + 10)).2 = 160) := by decide +kernel
theorem mm_of {ρ : Rf} (hρ : RF ρ) {k : Nat} (hk : k < 22) : MomO ρ (mmC k) := by
  obtain ⟨h1, h2, h3, h4, h5, h6, h7⟩ := mm_ok k hk
  exact ⟨h1, hρ _ _ _ h2, h3, fun b hb => ⟨hρ _ _ _ (h4 b hb).1, (h4 b hb).2⟩, ⟨hρ _ _ _ h5.1, h5.2⟩, ⟨hρ _ _ _ h6.1, h6.2⟩, hρ _ _ _ h7.1, h7.2⟩
theorem mom32 {ρ : Rf} (hρ : RF ρ) : MomO ρ 32 := mm_of (k := 20) hρ (by decide)
theorem mom268 {ρ : Rf} (hρ : RF ρ) : MomO ρ 268 := mm_of (k := 21) hρ (by decide)
theorem momK {ρ : Rf} (hρ : RF ρ) {k : Nat} (hk : k < 20) : MomO ρ (45 + 11 * k) := by
  have := mm_of (k := k) hρ (by omega)
  unfold mmC at this
  rw [if_neg (by omega), if_neg (by omega)] at this
  exact this
theorem t44 : ∀ k, k < 20 → t0 44 k = some (45 + 11 * k) := by decide +kernel
theorem KpR.of {f g : Nat → Int32} {o : Nat} {K : Nat × (Nat → Nat)} (H : KpR f o K) (h : ∀ j, j < 4 * K.1 → g (o + j) = f (o + j)) : KpR g o K := fun j hj => by rw [h j hj]; exact H j hj
section S51
variable {l : Launch} {X : Cx} {ρ : Rf} {B : Bh}
theorem t_copyPlan (d : Nat) {σ : St} {m m' : Nat} {P : Nat → Nat} (hm : MomO ρ m) (hm' : MomO ρ m') (hd : m + 11 ≤ m' ∨ m' + 11 ≤ m) (hW : WfN B) (hP : CPl σ m B P) :
    T l X (d + 2) 60 [.ref m', .ref m] 402 402 ρ σ (fun v ρ' σ' => v = none ∧ ρ' = ρ ∧ CPl σ' m' B P ∧ σ'.2 = σ.2 ∧ (∀ k, k ≠ m' → k ≠ m' + 8 → k ≠ m' + 9 → σ'.1 k = σ.1 k) ∧ ∀ j, j ≠ 2 → σ'.1 m' j = σ.1 m' j) := by
  have h16 := hW.2.2.2.1
  refine T_of rfl ?_
  refine Ev_aload rfl rfl rfl ?_
  refine Ev_aload rfl rfl rfl ?_
  refine Ev_getI rfl hm.1 ?_
  refine Ev_norm hP.1 ?_
  refine Ev_putI rfl hm'.1 ⟨rfl, rfl⟩ rfl ?_
  refine Ev_aload rfl rfl rfl ?_
  refine Ev_getR rfl hm.1 hm.2.2.2.2.1.1 ?_
  refine Ev_aload rfl rfl rfl ?_
  refine Ev_getR rfl hm'.1 hm'.2.2.2.2.1.1 ?_
  refine Ev_callS rfl rfl rfl rfl (same_n 402) (t_copyRow _ hm.2.2.2.2.1.2.1 hm'.2.2.2.2.1.2.1 hm.2.2.2.2.1.2.2 hm'.2.2.2.2.1.2.2 (by decide)) ?_
  rintro v16 ρ16 σ16 ⟨rfl, e16, f, hf, f1, f2⟩
  obtain rfl := e16.symm
  subst hf
  refine Ev_aload rfl rfl rfl ?_
  refine Ev_getR rfl hm.1 hm.2.2.2.2.2.1.1 ?_
  refine Ev_aload rfl rfl rfl ?_
  refine Ev_getR rfl hm'.1 hm'.2.2.2.2.2.1.1 ?_
  refine Ev_callS rfl rfl rfl rfl (same_n 402) (t_copyRow _ hm.2.2.2.2.2.1.2.1 hm'.2.2.2.2.2.1.2.1 hm.2.2.2.2.2.1.2.2 hm'.2.2.2.2.2.1.2.2 (by decide)) ?_
  rintro v27 ρ27 σ27 ⟨rfl, e27, g, hg, g1, g2⟩
  obtain rfl := e27.symm
  subst hg
  exact Ev_return rfl rfl rfl ⟨rfl, rfl, ⟨by rw [sR_1 _ _ (by omega), sR_1 _ _ (by omega), sR_0, pk_us], fun k hk => ⟨by rw [sR_1 _ _ (by omega), sR_0, f1 k (by omega), sR_1 _ _ (by omega)]; exact (hP.2 k hk).1, by rw [sR_0, g1 k (by omega), sR_1 _ _ (by omega), sR_1 _ _ (by omega)]; exact (hP.2 k hk).2⟩⟩, rfl, fun k k1 k2 k3 => by rw [sR_1 _ _ k3, sR_1 _ _ k2, sR_1 _ _ k1], fun j hj => by rw [sR_1 _ _ (by omega), sR_1 _ _ (by omega), sR_0, pk_un hj]⟩
theorem mc_loop {d : Nat} {σ0 : St} {m m' : Nat} {S : Str} {Q : Po} (hm : MomO ρ m) (hm' : MomO ρ m') (hd : m + 11 ≤ m' ∨ m' + 11 ≤ m) (hS : ∀ b, b < 6 → RowR σ0 (m + 2 + b) (S b))
    (hQ : ∀ σ, σ.2 = σ0.2 → (∀ b, b < 6 → RowR σ (m' + 2 + b) (S b)) → (∀ k, ¬ (m' + 2 ≤ k ∧ k < m' + 8) → σ.1 k = σ0.1 k) → Q none ρ σ) :
    ∀ (n k : Nat) (σ : St), k + n = 6 → σ.2 = σ0.2 → (∀ b, b < k → RowR σ (m' + 2 + b) (S b)) → (∀ k, ¬ (m' + 2 ≤ k ∧ k < m' + 8) → σ.1 k = σ0.1 k) → Ev l X (d + 3) 59 34 [.ref m', .ref m, .int (nI k)] [] 402 402 402 ρ σ Q := by
  intro n
  induction n with
  | zero =>
    intro k σ hk h2 hb hs
    have hk : k = 6 := by omega
    subst hk
    refine Ev_iload rfl rfl ?_
    refine Ev_const rfl ?_
    refine Ev_icmp_ge rfl (fun h37 => ?_) (fun h37 => absurd (by decide) h37)
    exact Ev_return rfl rfl rfl (hQ σ h2 hb hs)
  | succ n ih =>
    intro k σ hk h2 hb hs
    refine Ev_iload rfl rfl ?_
    refine Ev_const rfl ?_
    refine Ev_icmp_ge rfl (fun h37 => absurd h37 (nI_ge (b := 6) (by omega) (by decide))) (fun h37 => ?_)
    refine Ev_aload rfl rfl rfl ?_
    refine Ev_getR rfl hm.1 hm.2.1 ?_
    refine Ev_iload rfl rfl ?_
    refine Ev_aald (t := 4) rfl (Or.inl rfl) hm.2.2.1.1 (by rw [hm.2.2.1.2]; exact vp_in_nI (n := k) (show k < 6 by omega) (by decide)) (by rw [nI_clamp (by omega)]; exact (hm.2.2.2.1 k (by omega)).1 : _ = some (m + 2 + k)) ?_
    refine Ev_aload rfl rfl rfl ?_
    refine Ev_getR rfl hm'.1 hm'.2.1 ?_
    refine Ev_iload rfl rfl ?_
    refine Ev_aald (t := 4) rfl (Or.inl rfl) hm'.2.2.1.1 (by rw [hm'.2.2.1.2]; exact vp_in_nI (n := k) (show k < 6 by omega) (by decide)) (by rw [nI_clamp (by omega)]; exact (hm'.2.2.2.1 k (by omega)).1 : _ = some (m' + 2 + k)) ?_
    refine Ev_callS rfl rfl rfl rfl (same_n 402) (t_copyRow _ (hm.2.2.2.1 k (by omega)).2.1 (hm'.2.2.2.1 k (by omega)).2.1 (hm.2.2.2.1 k (by omega)).2.2 (hm'.2.2.2.1 k (by omega)).2.2 (by decide)) ?_
    rintro v52 ρ52 σ52 ⟨rfl, e52, f, hf, f1, f2⟩
    obtain rfl := e52.symm
    subst hf
    refine Ev_iincE rfl rfl (nI_1 k) ?_
    refine Ev_goto rfl ?_
    refine ih (k + 1) _ (by omega) h2 (fun b hbk i hi => ?_) (fun k' hk' => by rw [sR_1 _ _ (by omega)]; exact hs k' hk')
    by_cases hq : b = k
    · subst hq
      rw [sR_0, f1 i hi, hs _ (by omega)]
      exact hS b (by omega) i hi
    · rw [sR_1 _ _ (by omega)]
      exact hb b (by omega) i hi
theorem t_copyM (d : Nat) {σ : St} {m m' : Nat} {N : Mo} (hm : MomO ρ m) (hm' : MomO ρ m') (hd : m + 11 ≤ m' ∨ m' + 11 ≤ m) (hW : WfN B) (hN : CMo σ m B N) :
    T l X (d + 3) 59 [.ref m', .ref m] 402 402 ρ σ (fun v ρ' σ' => v = none ∧ ρ' = ρ ∧ CMo σ' m' B N ∧ σ'.2 = σ.2 ∧ ∀ k, ¬ (m' ≤ k ∧ k < m' + 11) → σ'.1 k = σ.1 k) := by
  obtain ⟨n1, n2, n3, n4⟩ := hN
  refine T_of rfl ?_
  refine Ev_aload rfl rfl rfl ?_
  refine Ev_aload rfl rfl rfl ?_
  refine Ev_getI rfl hm.1 ?_
  refine Ev_norm n1 ?_
  refine Ev_putI rfl hm'.1 ⟨rfl, rfl⟩ rfl ?_
  refine Ev_aload rfl rfl rfl ?_
  refine Ev_aload rfl rfl rfl ?_
  refine Ev_getI rfl hm.1 ?_
  refine Ev_norm (by rw [sR_1 _ _ (by omega)]; exact n4.1 : _ = nI N.2.2.2.1) ?_
  refine Ev_putI rfl hm'.1 ⟨rfl, rfl⟩ rfl ?_
  rw [sI_sI, sR_0]
  refine Ev_aload rfl rfl rfl ?_
  refine Ev_getR rfl hm.1 hm.2.2.2.2.2.2.1 ?_
  refine Ev_aload rfl rfl rfl ?_
  refine Ev_getR rfl hm'.1 hm'.2.2.2.2.2.2.1 ?_
  refine Ev_callS rfl rfl rfl rfl (same_n 402) (t_copyRow _ hm.2.2.2.2.2.2.2.1 hm'.2.2.2.2.2.2.2.1 hm.2.2.2.2.2.2.2.2 hm'.2.2.2.2.2.2.2.2 (by decide)) ?_
  rintro v24 ρ24 σ24 ⟨rfl, e24, f, hf, f1, f2⟩
  obtain rfl := e24.symm
  subst hf
  refine Ev_aload rfl rfl rfl ?_
  refine Ev_aload rfl rfl rfl ?_
  refine Ev_callV rfl rfl rfl hm'.1 rfl (same_n 402) (t_copyPlan _ hm hm' hd hW (P := N.2.2.1) ⟨by rw [sR_1 _ _ (by omega), sR_1 _ _ (by omega)]; exact n3.1, fun k hk => by rw [sR_1 _ _ (by omega), sR_1 _ _ (by omega), sR_1 _ _ (by omega), sR_1 _ _ (by omega)]; exact n3.2 k hk⟩) ?_
  rintro v29 ρ29 σ29 ⟨rfl, e29, p1, p2, p3, p4⟩
  obtain rfl := e29.symm
  refine Ev_const rfl ?_
  refine Ev_istore rfl ?_
  have hlow : ∀ k, k ≠ m' → k ≠ m' + 10 → k ≠ m' + 8 → k ≠ m' + 9 → σ29.1 k = σ.1 k := fun k k1 k2 k3 k4 => by rw [p3 k k1 k3 k4, sR_1 _ _ k2, sR_1 _ _ k1]
  refine mc_loop (S := N.2.1) hm hm' hd (σ0 := σ29) (fun b hb => (n2 b hb).eq (hlow _ (by omega) (by omega) (by omega) (by omega))) (fun σ1 s2 sb sk => ?_) 6 0 σ29 rfl rfl (fun b hb => absurd hb (Nat.not_lt_zero b)) (fun _ _ => rfl)
  refine ⟨rfl, rfl, ⟨?_, sb, ⟨?_, fun k hk => ?_⟩, ?_, n4.2.1, ?_⟩, s2.trans p2, fun k hk => ?_⟩
  · rw [sk _ (by omega), p4 _ (by decide), sR_1 _ _ (by omega), sR_0, pk_un (by decide), pk_us]
  · rw [sk _ (by omega)]; exact p1.1
  · rw [sk _ (by omega), sk _ (by omega)]; exact p1.2 k hk
  · rw [sk _ (by omega), p4 _ (by decide), sR_1 _ _ (by omega), sR_0, pk_us]
  · have h40 := n4.2.1
    refine n4.2.2.of (fun j hj => ?_)
    rw [sk _ (by omega), p3 _ (by omega) (by omega) (by omega), sR_0, Nat.zero_add, f1 j (by omega), sR_1 _ _ (by omega)]
  · rw [sk _ (by omega), hlow _ (by omega) (by omega) (by omega) (by omega)]
def pushP (P : Nat × (Nat → Mo)) (N : Mo) : Nat × (Nat → Mo) := (if P.1 < 20 then P.1 + 1 else 20, fun k => if k = 0 then N else P.2 (k - 1))
def popP (P : Nat × (Nat → Mo)) : Nat × (Nat → Mo) := (P.1 - 1, fun k => P.2 (k + 1))
theorem t_push (d : Nat) {σ : St} {N : Mo} {P : Nat × (Nat → Mo)} (hρ : RF ρ) (hW : WfN B) (hN : CMo σ 32 B N) (hP : CPas σ B P) (h20 : P.1 ≤ 20) :
    T l X (d + 4) 76 [.ref 43, .ref 32] 402 402 ρ σ (fun v ρ' σ' => v = none ∧ ρ' = ρ ∧ CPas σ' B (pushP P N) ∧ σ'.2 = σ.2 ∧ ∀ k, ¬ (43 ≤ k ∧ k < 265) → σ'.1 k = σ.1 k) := by
  obtain ⟨p1, o, ho, p2, p3⟩ := hP
  have hr : (o + P.1) % 20 < 20 := Nat.mod_lt _ (by decide)
  have hfin : ∀ σ1 : St, CMo σ1 (45 + 11 * ((o + P.1) % 20)) B N → (∀ k, ¬ (45 + 11 * ((o + P.1) % 20) ≤ k ∧ k < 45 + 11 * ((o + P.1) % 20) + 11) → σ1.1 k = σ.1 k) → ∀ k, k < (pushP P N).1 →
      CMo σ1 (45 + 11 * ((o + P.1 - k) % 20)) B ((pushP P N).2 k) := by
    intro σ1 hc hk1 k hk
    unfold pushP at hk ⊢
    by_cases h0 : k = 0
    · simp only [if_pos h0]
      rw [h0, Nat.sub_zero]; exact hc
    · simp only [if_neg h0]
      have hkn : k - 1 < P.1 := by
        by_cases hc : P.1 < 20
        · simp only [if_pos hc] at hk; omega
        · simp only [if_neg hc] at hk; omega
      have := p3 (k - 1) hkn
      rw [show o + (P.1 - 1 - (k - 1)) = o + P.1 - k by omega] at this
      have hk20 : k < 20 := by
        by_cases hc : P.1 < 20
        · simp only [if_pos hc] at hk; omega
        · simp only [if_neg hc] at hk; omega
      refine this.eq (fun r hr2 => hk1 _ (by omega))
  refine T_of rfl ?_
  refine Ev_aload rfl rfl rfl ?_
  refine Ev_getR rfl (by first | rfl | assumption) (hρ _ _ _ rfl) ?_
  refine Ev_aload rfl rfl rfl ?_
  refine Ev_getI rfl (by first | rfl | assumption) ?_
  refine Ev_norm p2 ?_
  refine Ev_aload rfl rfl rfl ?_
  refine Ev_getI rfl (by first | rfl | assumption) ?_
  refine Ev_norm p1 ?_
  refine Ev_iadd rfl ?_
  refine Ev_norm (nI_add o P.1) ?_
  refine Ev_const rfl ?_
  refine Ev_irem rfl (by decide : ¬ (20 : Int32) = 0) ?_
  refine Ev_norm (pk_rem (a := o + P.1) (d := 20) (by omega) (by decide) (by decide) : _ = nI ((o + P.1) % 20)) ?_
  refine Ev_aald (t := 5) rfl (Or.inr rfl) (by first | rfl | assumption) (vp_in_nI (n := (o + P.1) % 20) hr (by decide)) (by rw [nI_clamp (by omega)]; exact hρ _ _ _ (t44 _ hr) : _ = some (45 + 11 * ((o + P.1) % 20))) ?_
  refine Ev_aload rfl rfl rfl ?_
  refine Ev_callV rfl rfl rfl ((momK hρ hr).1) rfl (same_n 402) (t_copyM _ (mom32 hρ) (momK hρ hr) (by omega) hW hN) ?_
  rintro v18 ρ18 σ18 ⟨rfl, e18, c1, c2, c3⟩
  obtain rfl := e18.symm
  refine Ev_aload rfl rfl rfl ?_
  refine Ev_getI rfl (by first | rfl | assumption) ?_
  refine Ev_norm (by rw [c3 43 (by omega)]; exact p1 : _ = nI P.1) ?_
  refine Ev_const rfl ?_
  refine Ev_icmp_ge rfl (fun h27 => ?_) (fun h27 => ?_)
  · refine Ev_aload rfl rfl rfl ?_
    refine Ev_aload rfl rfl rfl ?_
    refine Ev_getI rfl (by first | rfl | assumption) ?_
    refine Ev_norm (by rw [c3 43 (by omega)]; exact p2 : _ = nI o) ?_
    refine Ev_const rfl ?_
    refine Ev_iadd rfl ?_
    refine Ev_norm (nI_1 o) ?_
    refine Ev_const rfl ?_
    refine Ev_irem rfl (by decide : ¬ (20 : Int32) = 0) ?_
    refine Ev_norm (pk_rem (a := o + 1) (d := 20) (by omega) (by decide) (by decide) : _ = nI ((o + 1) % 20)) ?_
    refine Ev_putI rfl (by first | rfl | assumption) ⟨rfl, rfl⟩ rfl ?_
    exact Ev_return rfl rfl rfl (by
    have hlt : ¬ P.1 < 20 := fun q => absurd h27 (nI_ge (a := P.1) (b := 20) q (by decide))
    have h20' : P.1 = 20 := by omega
    have hp : (pushP P N).1 = 20 := by unfold pushP; exact if_neg hlt
    refine ⟨rfl, rfl, ⟨?_, (o + 1) % 20, Nat.mod_lt _ (by decide), ?_, fun k hk => ?_⟩, c2, fun k hk => ?_⟩
    · rw [sR_0, pk_un (by decide), c3 43 (by omega), p1, hp, h20']
    · rw [sR_0, pk_us]
    · rw [hp] at hk ⊢
      have := hfin σ18 c1 c3 k (by rw [hp]; exact hk)
      rw [show ((o + 1) % 20 + (20 - 1 - k)) % 20 = (o + P.1 - k) % 20 by omega]
      exact this.eq (fun r hr2 => sR_1 _ _ (by omega))
    · rw [sR_1 _ _ (by omega)]; exact c3 k (by omega))
  · refine Ev_aload rfl rfl rfl ?_
    refine Ev_dup rfl (fun _ q => nomatch q) ?_
    refine Ev_getI rfl (by first | rfl | assumption) ?_
    refine Ev_norm (by rw [c3 43 (by omega)]; exact p1 : _ = nI P.1) ?_
    refine Ev_const rfl ?_
    refine Ev_iadd rfl ?_
    refine Ev_norm (nI_1 P.1) ?_
    refine Ev_putI rfl (by first | rfl | assumption) ⟨rfl, rfl⟩ rfl ?_
    refine Ev_goto rfl ?_
    exact Ev_return rfl rfl rfl (by
    have hlt : P.1 < 20 := Decidable.byContradiction fun q => h27 (by rw [show P.1 = 20 by omega]; decide)
    have hp : (pushP P N).1 = P.1 + 1 := by unfold pushP; exact if_pos hlt
    refine ⟨rfl, rfl, ⟨?_, o, ho, ?_, fun k hk => ?_⟩, c2, fun k hk => ?_⟩
    · rw [sR_0, pk_us, hp]
    · rw [sR_0, pk_un (by decide), c3 43 (by omega), p2]
    · rw [hp] at hk ⊢
      have := hfin σ18 c1 c3 k (by rw [hp]; exact hk)
      rw [show o + (P.1 + 1 - 1 - k) = o + P.1 - k by omega]
      exact this.eq (fun r hr2 => sR_1 _ _ (by omega))
    · rw [sR_1 _ _ (by omega)]; exact c3 k (by omega))
theorem t_pop (d : Nat) {σ : St} {P : Nat × (Nat → Mo)} (hρ : RF ρ) (hW : WfN B) (hP : CPas σ B P) (h20 : P.1 ≤ 20) (h0 : 0 < P.1) :
    T l X (d + 4) 77 [.ref 43, .ref 32] 402 402 ρ σ (fun v ρ' σ' => v = none ∧ ρ' = ρ ∧ CMo σ' 32 B (P.2 0) ∧ CPas σ' B (popP P) ∧ σ'.2 = σ.2 ∧ ∀ k, ¬ (32 ≤ k ∧ k < 44) → σ'.1 k = σ.1 k) := by
  obtain ⟨p1, o, ho, p2, p3⟩ := hP
  have hr : (o + (P.1 - 1)) % 20 < 20 := Nat.mod_lt _ (by decide)
  have h3 := p3 0 h0
  rw [Nat.sub_zero] at h3
  refine T_of rfl ?_
  refine Ev_aload rfl rfl rfl ?_
  refine Ev_getI rfl (by first | rfl | assumption) ?_
  refine Ev_norm p1 ?_
  refine Ev_if_le rfl (fun h4 => absurd h4 (nI_nle h0 (by omega))) (fun h4 => ?_)
  refine Ev_aload rfl rfl rfl ?_
  refine Ev_dup rfl (fun _ q => nomatch q) ?_
  refine Ev_getI rfl (by first | rfl | assumption) ?_
  refine Ev_norm p1 ?_
  refine Ev_const rfl ?_
  refine Ev_isub rfl ?_
  refine Ev_norm (pk_sub (a := P.1) (b := 1) (by omega) : _ = nI (P.1 - 1)) ?_
  refine Ev_putI rfl (by first | rfl | assumption) ⟨rfl, rfl⟩ rfl ?_
  refine Ev_aload rfl rfl rfl ?_
  refine Ev_aload rfl rfl rfl ?_
  refine Ev_getR rfl (by first | rfl | assumption) (hρ _ _ _ rfl) ?_
  refine Ev_aload rfl rfl rfl ?_
  refine Ev_getI rfl (by first | rfl | assumption) ?_
  refine Ev_norm (by rw [sR_0, pk_un (by decide)]; exact p2 : _ = nI o) ?_
  refine Ev_aload rfl rfl rfl ?_
  refine Ev_getI rfl (by first | rfl | assumption) ?_
  refine Ev_norm (by rw [sR_0, pk_us] : _ = nI (P.1 - 1)) ?_
  refine Ev_iadd rfl ?_
  refine Ev_norm (nI_add o (P.1 - 1)) ?_
  refine Ev_const rfl ?_
  refine Ev_irem rfl (by decide : ¬ (20 : Int32) = 0) ?_
  refine Ev_norm (pk_rem (a := o + (P.1 - 1)) (d := 20) (by omega) (by decide) (by decide) : _ = nI ((o + (P.1 - 1)) % 20)) ?_
  refine Ev_aald (t := 5) rfl (Or.inr rfl) (by first | rfl | assumption) (vp_in_nI (n := (o + (P.1 - 1)) % 20) hr (by decide)) (by rw [nI_clamp (by omega)]; exact hρ _ _ _ (t44 _ hr) : _ = some (45 + 11 * ((o + (P.1 - 1)) % 20))) ?_
  refine Ev_callV rfl rfl rfl rfl rfl (same_n 402) (t_copyM _ (momK hρ hr) (mom32 hρ) (by omega) hW (h3.eq (fun r hr2 => sR_1 _ _ (by omega)))) ?_
  rintro v35 ρ35 σ35 ⟨rfl, e35, c1, c2, c3⟩
  obtain rfl := e35.symm
  exact Ev_return rfl rfl rfl (by
  refine ⟨rfl, rfl, c1, ⟨?_, o, ho, ?_, fun k hk => ?_⟩, c2, fun k hk => ?_⟩
  · rw [c3 43 (by omega), sR_0, pk_us]; rfl
  · rw [c3 43 (by omega), sR_0, pk_un (by decide)]; exact p2
  · have hk : k < P.1 - 1 := hk
    have := p3 (k + 1) (by omega)
    rw [show P.1 - 1 - (k + 1) = P.1 - 1 - 1 - k by omega] at this
    have hm : (o + (P.1 - 1 - 1 - k)) % 20 < 20 := Nat.mod_lt _ (by decide)
    exact this.eq (fun r hr2 => by rw [c3 _ (by omega), sR_1 _ _ (by omega)])
  · rw [c3 _ (by omega), sR_1 _ _ (by omega)])
end S51
