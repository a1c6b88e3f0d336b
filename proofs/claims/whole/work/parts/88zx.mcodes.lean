/-! A beach read by the reference: formulas told. -/
/-- a reading that may be behind by a look -/
def Lag (U : Tx) (s s' : Rdg) : Prop := lkS U s = lkS U s' ∧ (isOk s' = true → s = s')
theorem Lag.rf (U : Tx) (s : Rdg) : Lag U s s := ⟨rfl, fun _ => rfl⟩
theorem Lag.bad {U : Tx} {s s' : Rdg} (h : Lag U s s') (hs : isOk s = false) : isOk s' = false ∧ s = s' := by
  cases s' with
  | inr p => rw [h.2 rfl] at hs; cases hs
  | inl e =>
    obtain ⟨e', rfl⟩ := not_inl hs
    exact ⟨rfl, h.1⟩
theorem mAs_lag {U : Tx} {s s' : Rdg} {c : Nat} (h : Lag U s s') (hI : Ivr U s') (hc : dgB c = false ∧ ltB c = false) : mAs U c s = aSg U c s' := by
  obtain ⟨h1, h2⟩ := h
  cases s' with
  | inr p => rw [h2 rfl]; exact mAs_a hI hc
  | inl e =>
    have h1 : lkS U s = .inl e := h1
    rw [show aSg U c (.inl e) = .inl e from rfl]
    cases s with
    | inl e' =>
      have h1 : (.inl e' : Rdg) = .inl e := h1
      rw [h1]; rfl
    | inr p =>
      obtain ⟨hf, he⟩ := cf_of h1
      obtain ⟨-, -, -, -, -, -, x, c7, c8⟩ := cf_yes hf
      unfold mAs
      rw [c7, if_neg (fun z => by cases z; rcases c8 with q | q; rw [hc.1] at q; cases q; rw [hc.2] at q; cases q), he]
      rfl
theorem MNew.fo {σ σ' : St} {B : Bh} {k : Nat} {cs : List Nat} (H : MNew σ B) (hk : k < 4) (hn : frm B k = none) (h1 : σ'.1 362 = upd (σ.1 362) k (nI (flen B))) (h2 : σ'.1 363 = upd (σ.1 363) k (nI (flen B + cs.length))) (h3 : ∀ j, j < flen B → σ'.1 364 j = σ.1 364 j) (h4 : ∀ q, q < cs.length → σ'.1 364 (flen B + q) = nI (mc (cs.getD q 0))) (h5 : σ'.1 326 48 = nI (flen B + cs.length))
    (h6 : ∀ q, q ∈ [356, 358, 359, 360, 361] → σ'.1 q = σ.1 q) (h7 : σ'.2 357 = σ.2 357) : MNew σ' (adF B k cs) := by
  obtain ⟨g1, g2, g3, g4, g5⟩ := H
  have efl := fl_adF (cs := cs) hk hn
  have efr : ∀ j, frm (adF B k cs) j = upF B.2.2.2.2 k (some cs) j := fun _ => rfl
  refine ⟨fun q hq => by rw [h6 356 (by decide)]; exact g1 q hq, by unfold MNm; rw [h7]; exact g2, ?_, fun j hj => ?_, by rw [h5, efl]⟩
  · unfold MNt; rw [h6 358 (by decide), h6 359 (by decide), h6 360 (by decide), h6 361 (by decide)]; exact g3
  · rw [h1, h2, efl]
    by_cases hq : j = k
    · subst hq
      rw [show frm (adF B j cs) j = some cs from upF_s _ _ _]
      exact ⟨flen B, flen B + cs.length, pk_us, pk_us, rfl, Nat.le_refl _, h4⟩
    · rw [show frm (adF B k cs) j = frm B j from upF_n hq]
      have g := g4 j hj
      cases hf : frm B j with
      | none => rw [hf] at g; simp only at g ⊢; rw [pk_un hq]; exact g
      | some cs' =>
        rw [hf] at g
        obtain ⟨a, b, k1, k2, k3, k4, k5⟩ := g
        exact ⟨a, b, by rw [pk_un hq]; exact k1, by rw [pk_un hq]; exact k2, k3, by omega, fun q hq2 => by rw [h3 _ (by omega)]; exact k5 q hq2⟩
section S88zx
variable {l : Launch} {X : Cx} {ρ : Rf} {U : Tx} {Bo B : Bh}
/-- what a statement leaves, its reading behind by a look -/
def StL (U : Tx) (Bo : Bh) (ρ : Rf) (σ : St) (y : Rdg × Bh) : Po := fun v ρ' σ' => v = none ∧ ρ' = ρ ∧ (∃ s, MTt σ' U s ∧ Lag U s y.1) ∧ Wds σ' ∧ MOld σ' Bo ∧ (isOk y.1 = true → MNew σ' y.2) ∧ MRe σ σ'
theorem StQ.lag {σ : St} {y : Rdg × Bh} {v : Option Value} {ρ' : Rf} {σ' : St} (h : StQ U Bo ρ σ y v ρ' σ') : StL U Bo ρ σ y v ρ' σ' := ⟨h.1, h.2.1, ⟨_, h.2.2.1, Lag.rf _ _⟩, h.2.2.2⟩
/-- codes copied behind those that were told -/
theorem m_copyCodes (d : Nat) {k c0 n a : Nat} {cs : List Nat} (hρ : RF ρ) (hn : cs.length = n) (hc : c0 + n ≤ 1600) {σ0 : St} {Q : Po} (hQ : ∀ σ' L3, σ'.1 326 48 = nI (c0 + n) → (∀ q, q < n → σ'.1 364 (c0 + q) = nI (mc (cs.getD q 0))) → (∀ j, (j < c0 ∨ c0 + n ≤ j) → σ'.1 364 j = σ0.1 364 j) → MF (fun q => Nat.beq q 364) (fun j => Nat.beq j 48) σ0 σ' → Ev l X d 187 131 [.ref 326, .int (nI k), .int (nI a), L3] [] 402 402 402 ρ σ' Q) :
    ∀ (m i : Nat) (σ : St), i + m = n → σ.1 326 48 = nI (c0 + i) → σ.1 326 100 = nI n → (∀ q, q < n → σ.1 398 q = nI (mc (cs.getD q 0))) → (∀ q, q < i → σ.1 364 (c0 + q) = nI (mc (cs.getD q 0))) → (∀ j, (j < c0 ∨ c0 + n ≤ j) → σ.1 364 j = σ0.1 364 j) → MF (fun q => Nat.beq q 364) (fun j => Nat.beq j 48) σ0 σ →
    Ev l X d 187 92 [.ref 326, .int (nI k), .int (nI a), .int (nI i)] [] 402 402 402 ρ σ Q := by
  intro m
  induction m with
  | zero =>
    intro i σ hm h1 h2 h3 h4 h5 h6
    obtain rfl : i = n := by omega
    refine Ev_iload rfl rfl ?_
    refine Ev_aload rfl rfl rfl ?_
    refine Ev_getI rfl (by first | rfl | assumption) ?_
    refine Ev_norm h2 ?_
    refine Ev_icmp_ge rfl (fun h97 => ?_) (fun h97 => absurd (nI_le (Nat.le_refl _) (by omega)) h97)
    exact hQ σ _ h1 h4 h5 h6
  | succ m ih =>
    intro i σ hm h1 h2 h3 h4 h5 h6
    refine Ev_iload rfl rfl ?_
    refine Ev_aload rfl rfl rfl ?_
    refine Ev_getI rfl (by first | rfl | assumption) ?_
    refine Ev_norm h2 ?_
    refine Ev_icmp_ge rfl (fun h97 => absurd h97 (nI_ge (by omega) (by omega))) (fun h97 => ?_)
    refine Ev_aload rfl rfl rfl ?_
    refine Ev_getR rfl (by first | rfl | assumption) (hρ _ _ _ rfl) ?_
    refine Ev_aload rfl rfl rfl ?_
    refine Ev_getI rfl (by first | rfl | assumption) ?_
    refine Ev_norm h1 ?_
    refine Ev_aload rfl rfl rfl ?_
    refine Ev_getR rfl (by first | rfl | assumption) (hρ _ _ _ rfl) ?_
    refine Ev_iload rfl rfl ?_
    refine Ev_iald rfl (by first | rfl | assumption) (vp_in_nI (n := i) (show i < 1700 by omega) (by decide)) ?_
    refine Ev_norm (by rw [nI_clamp (by omega)]; exact h3 i (by omega) : _ = nI (mc (cs.getD i 0))) ?_
    refine Ev_iast rfl (by first | rfl | assumption) (vp_in_nI (n := c0 + i) (show c0 + i < 3200 by omega) (by decide)) ?_
    refine Ev_aload rfl rfl rfl ?_
    refine Ev_dup rfl (fun _ q => nomatch q) ?_
    refine Ev_getI rfl (by first | rfl | assumption) ?_
    refine Ev_norm (by rw [sR_1 _ _ (by decide)]; exact h1 : _ = nI (c0 + i)) ?_
    refine Ev_const rfl ?_
    refine Ev_iadd rfl ?_
    refine Ev_norm (nI_1 (c0 + i)) ?_
    refine Ev_putI rfl (by first | rfl | assumption) ⟨rfl, rfl⟩ rfl ?_
    refine Ev_iincE rfl rfl (nI_1 i) ?_
    refine Ev_goto rfl ?_
    rw [nI_clamp (show c0 + i < 2 ^ 31 by omega)]
    refine ih (i + 1) _ (by omega) ?_ ?_ ?_ ?_ ?_ ((h6.tr (MF.cell _ (by decide) rfl)).tr (MF.put _ rfl))
    · rw [sR_0, pk_us]; rfl
    · rw [sR_0, pk_un (by decide), sR_1 _ _ (by decide)]; exact h2
    · intro q hq; rw [sR_1 _ _ (by decide), sR_1 _ _ (by decide)]; exact h3 q hq
    · intro q hq
      rw [sR_1 _ _ (by decide), sR_0]
      by_cases hz : q = i
      · rw [hz, pk_us]
      · rw [pk_un (by omega)]; exact h4 q (by omega)
    · intro j hj
      rw [sR_1 _ _ (by decide), sR_0, pk_un (by omega)]
      exact h5 j hj
theorem foX_3 (U : Tx) (s : Rdg) : foX U 3 s = (lvl U 3 6).2.1 (s, []) := if_pos rfl
theorem foX_n (U : Tx) {k : Nat} (h : k ≠ 3) (s : Rdg) : foX U k s = (lvl U k 6).2.2.1 (s, []) := if_neg h
/-- behind the reading of a formula: its codes are kept -/
theorem m_codesEnd (d : Nat) {σ σ1 : St} {k a : Nat} {p : Nat × Nat} {sr : Rdg} {out : List Nat} {y : Xs} (hρ : RF ρ) (hT : TxW U) (hB : WfB B) (hk : k < 4) (hfl : flen B ≤ p.1) (hfr : frm B k = none) (H : MSt σ1 U Bo B sr) (hlag : Lag U sr y.1) (hy : isOk y.1 = true → out = y.2) (hp : isOk sr = true → MPc σ1 out [] ∧ out.length + p.1 ≤ rpos sr) (hc : MRe σ σ1) (L3 : Value) :
    Ev l X (d + 1) 187 72 [.ref 326, .int (nI k), .int (nI a), L3] [] 402 402 402 ρ σ1 (StL U Bo ρ σ (y.1, adF B k y.2)) := by
  have h16 := hT.1
  cases ho : isOk sr with
  | false =>
    obtain ⟨z, hz, hz0⟩ := H.1.badN ho
    obtain ⟨l1, l2⟩ := hlag.bad ho
    refine Ev_aload rfl rfl rfl ?_
    refine Ev_getI rfl (by first | rfl | assumption) ?_
    refine Ev_norm hz ?_
    refine Ev_if_eq rfl (fun h76 => absurd h76 hz0) (fun h76 => ?_)
    exact Ev_return rfl rfl rfl ⟨rfl, rfl, ⟨sr, H.1, hlag⟩, H.2.1, H.2.2.1, (fun z => by have z : isOk y.1 = true := z; rw [l1] at z; cases z), hc⟩
  | true =>
    obtain ⟨⟨p1, p2, p3, p4⟩, hlen⟩ := hp ho
    have hrp := H.1.rle ho
    have hz := H.1.badO ho
    obtain ⟨n1, n2, n3, n4, n5⟩ := H.2.2.2
    refine Ev_aload rfl rfl rfl ?_
    refine Ev_getI rfl (by first | rfl | assumption) ?_
    refine Ev_norm hz ?_
    refine Ev_if_eq rfl (fun h76 => ?_) (fun h76 => absurd rfl h76)
    refine Ev_aload rfl rfl rfl ?_
    refine Ev_getR rfl (by first | rfl | assumption) (hρ _ _ _ rfl) ?_
    refine Ev_iload rfl rfl ?_
    refine Ev_aload rfl rfl rfl ?_
    refine Ev_getI rfl (by first | rfl | assumption) ?_
    refine Ev_norm n5 ?_
    refine Ev_iast rfl (by first | rfl | assumption) (vp_in_nI (n := k) (show k < 8 by omega) (by decide)) ?_
    refine Ev_const rfl ?_
    refine Ev_istore rfl ?_
    rw [nI_clamp (show k < 2 ^ 31 by omega)]
    refine m_copyCodes (d + 1) (c0 := flen B) (n := out.length) (cs := out) (σ0 := sI σ1 362 (upd (σ1.1 362) k (nI (flen B)))) hρ rfl (by omega) (fun σ2 L g1 g2 g3 g4 => ?_) out.length 0 _ (Nat.zero_add _) ?_ ?_ ?_ (fun q hq => absurd hq (Nat.not_lt_zero q)) (fun _ _ => rfl) (MF.rf _ _ _)
    · refine Ev_aload rfl rfl rfl ?_
      refine Ev_getR rfl (by first | rfl | assumption) (hρ _ _ _ rfl) ?_
      refine Ev_iload rfl rfl ?_
      refine Ev_aload rfl rfl rfl ?_
      refine Ev_getI rfl (by first | rfl | assumption) ?_
      refine Ev_norm g1 ?_
      refine Ev_iast rfl (by first | rfl | assumption) (vp_in_nI (n := k) (show k < 8 by omega) (by decide)) ?_
      exact Ev_return rfl rfl rfl (by
      rw [nI_clamp (show k < 2 ^ 31 by omega)]
      have hm1 : MRe σ1 (sI σ1 362 (upd (σ1.1 362) k (nI (flen B)))) := MRe.cell _ (by decide) rfl
      have hm2 : MRe (sI σ1 362 (upd (σ1.1 362) k (nI (flen B)))) σ2 := MF.k g4 (fun q hq => nbeq (fun z => by rw [z] at hq; exact absurd hq (by decide))) (fun j hj => (fRe_f hj).2.1)
      have hm3 : MRe σ2 (sI σ2 363 (upd (σ2.1 363) k (nI (flen B + out.length)))) := MRe.cell _ (by decide) rfl
      have hcell : ∀ q, q ≠ 326 → q ≠ 362 → q ≠ 363 → q ≠ 364 → (sI σ2 363 (upd (σ2.1 363) k (nI (flen B + out.length)))).1 q = σ1.1 q := fun q q1 q2 q3 q4 => by rw [sR_1 _ _ q3, g4.1 q q1 (nbeq q4), sR_1 _ _ q2]
      have hfld : ∀ j, j ≠ 48 → (sI σ2 363 (upd (σ2.1 363) k (nI (flen B + out.length)))).1 326 j = σ1.1 326 j := fun j hj => by rw [sR_1 _ _ (by decide), g4.2.2 j (nbeq hj), sR_1 _ _ (by decide)]
      have hend : (sI σ2 363 (upd (σ2.1 363) k (nI (flen B + out.length)))).1 363 = upd (σ1.1 363) k (nI (flen B + out.length)) := by rw [sR_0, g4.1 _ (by decide) rfl, sR_1 _ _ (by decide)]
      have hfro : (sI σ2 363 (upd (σ2.1 363) k (nI (flen B + out.length)))).1 362 = upd (σ1.1 362) k (nI (flen B)) := by rw [sR_1 _ _ (by decide), g4.1 _ (by decide) rfl, sR_0]
      have hcod : (sI σ2 363 (upd (σ2.1 363) k (nI (flen B + out.length)))).1 364 = σ2.1 364 := sR_1 _ _ (by decide)
      have h0c : ∀ j, (j < flen B ∨ flen B + out.length ≤ j) → σ2.1 364 j = σ1.1 364 j := fun j hj => by rw [g3 j hj, sR_1 _ _ (by decide)]
      have hnam : (sI σ2 363 (upd (σ2.1 363) k (nI (flen B + out.length)))).2 357 = σ1.2 357 := g4.2.1 _ (by decide)
      refine ⟨rfl, rfl, ⟨sr, H.1.kc (hcell _ (by decide) (by decide) (by decide) (by decide)) (fun j hj => hfld j ?_), hlag⟩, H.2.1.k ((hm1.tr hm2).tr hm3), ?_, fun z => ?_, ((hc.tr hm1).tr hm2).tr hm3⟩
      · simp only [List.mem_cons, List.not_mem_nil, or_false] at hj
        omega
      · refine H.2.2.1.up (fun j hj => ?_) (fun j hj => ⟨?_, ?_⟩) (fun j hj => ?_) (fun j hj => ⟨?_, ?_⟩) (fun j hj => ?_) (fun j hj => ?_)
        · rw [hcell _ (by decide) (by decide) (by decide) (by decide)]
        · rw [hcell _ (by decide) (by decide) (by decide) (by decide)]
        · rw [hcell _ (by decide) (by decide) (by decide) (by decide)]
        · rw [hcell _ (by decide) (by decide) (by decide) (by decide)]
        · rw [hfro, pk_un (by omega)]
        · rw [hend, pk_un (by omega)]
        · rw [hcod, h0c j (Or.inr (by omega))]
        · rw [hnam]
      · have e2 := hy z
        subst e2
        refine H.2.2.2.fo hk hfr hfro hend (fun j hj => by rw [hcod, h0c j (Or.inl hj)]) (fun q hq => by rw [hcod]; exact g2 q hq) (by rw [sR_1 _ _ (by decide)]; exact g1) (fun q hq => hcell q ?_ ?_ ?_ ?_) hnam
        all_goals (simp only [List.mem_cons, List.not_mem_nil, or_false] at hq; omega))
    · rw [sR_1 _ _ (by decide)]; exact n5
    · rw [sR_1 _ _ (by decide)]; exact p1
    · intro q hq; rw [sR_1 _ _ (by decide)]; exact p2 q hq
theorem m_codesTold (d : Nat) {σ : St} {p : Nat × Nat} {a k : Nat} (hρ : RF ρ) (hT : TxW U) (hB : WfB B) (hk : k < 4) (hI : Ivr U (.inr p)) (hfl : flen B ≤ p.1) (H : MSt σ U Bo B (.inr p)) :
    T l X (d + 9) 187 [.ref 326, .int (nI k), .int (nI a)] 402 402 ρ σ (StL U Bo ρ σ (foR U k a (.inr p, B))) := by
  have h16 := hT.1
  have hp : p.1 ≤ U.1 := hI.1
  have g := H.2.2.2.2.2.2.1 k hk
  cases hf : frm B k with
  | some cs =>
    rw [hf] at g
    obtain ⟨a', b', g1, g2, g3, g4, g5⟩ := g
    have eR : (foR U k a (.inr p, B)).1 = .inl (5, a) := by
      show (foX U k (foA k a (.inr p, B))).1 = _
      have : foA k a (.inr p, B) = .inl (5, a) := by
        unfold foA
        show (if frm B k = none then (.inr p : Rdg) else .inl (5, a)) = _
        rw [if_neg (by rw [hf]; intro z; cases z)]
      rw [this, foX_l]
    refine T_of rfl ?_
    refine Ev_aload rfl rfl rfl ?_
    refine Ev_getI rfl (by first | rfl | assumption) ?_
    refine Ev_norm (MTt.bad0 H.1) ?_
    refine Ev_if_ne rfl (fun h4 => absurd rfl h4) (fun h4 => ?_)
    refine Ev_aload rfl rfl rfl ?_
    refine Ev_getR rfl (by first | rfl | assumption) (hρ _ _ _ rfl) ?_
    refine Ev_iload rfl rfl ?_
    refine Ev_iald rfl (by first | rfl | assumption) (vp_in_nI (n := k) (show k < 8 by omega) (by decide)) ?_
    refine Ev_norm (by rw [nI_clamp (by omega)]; exact g1 : _ = nI a') ?_
    refine Ev_const rfl ?_
    refine Ev_icmp_eq rfl (fun h14 => absurd h14 (nI_m1 (by omega))) (fun h14 => ?_)
    refine Ev_aload rfl rfl rfl ?_
    refine Ev_const rfl ?_
    refine Ev_iload rfl rfl ?_
    refine Ev_callV rfl rfl rfl rfl rfl (same_n 402) (m_fail _ (w := 5) (k := a) H.1 (by decide) (fun _ _ => rfl)) ?_
    rintro v20 ρ20 σ20 ⟨rfl, e20, s20, c20⟩
    obtain rfl := e20.symm
    refine Ev_aload rfl rfl rfl ?_
    refine Ev_getI rfl (by first | rfl | assumption) ?_
    refine Ev_norm s20.2.2.1 ?_
    refine Ev_if_eq rfl (fun h27 => absurd h27 (show ¬ nI 5 = 0 by decide)) (fun h27 => ?_)
    exact Ev_return rfl rfl rfl ⟨rfl, rfl, ⟨_, s20, by rw [eR]; exact Lag.rf _ _⟩, H.2.1.mx c20, (H.mx s20 c20).2.2.1, (fun z => by rw [eR] at z; cases z), c20.k⟩
  | none =>
    rw [hf] at g
    have g : σ.1 362 k = -1 := g
    have eA : foA k a (.inr p, B) = .inr p := by
      unfold foA
      show (if frm B k = none then (.inr p : Rdg) else .inl (5, a)) = _
      rw [if_pos hf]
    have eR : foR U k a (.inr p, B) = ((foX U k (.inr p)).1, adF B k (foX U k (.inr p)).2) := by
      unfold foR; rw [eA]
    rw [eR]
    refine T_of rfl ?_
    refine Ev_aload rfl rfl rfl ?_
    refine Ev_getI rfl (by first | rfl | assumption) ?_
    refine Ev_norm (MTt.bad0 H.1) ?_
    refine Ev_if_ne rfl (fun h4 => absurd rfl h4) (fun h4 => ?_)
    refine Ev_aload rfl rfl rfl ?_
    refine Ev_getR rfl (by first | rfl | assumption) (hρ _ _ _ rfl) ?_
    refine Ev_iload rfl rfl ?_
    refine Ev_iald rfl (by first | rfl | assumption) (vp_in_nI (n := k) (show k < 8 by omega) (by decide)) ?_
    refine Ev_norm (by rw [nI_clamp (by omega)]; exact g : _ = (-1 : Int32)) ?_
    refine Ev_const rfl ?_
    refine Ev_icmp_eq rfl (fun h14 => ?_) (fun h14 => absurd rfl h14)
    refine Ev_aload rfl rfl rfl ?_
    refine Ev_getI rfl (by first | rfl | assumption) ?_
    refine Ev_norm (MTt.bad0 H.1) ?_
    refine Ev_if_eq rfl (fun h27 => ?_) (fun h27 => absurd rfl h27)
    refine Ev_aload rfl rfl rfl ?_
    refine Ev_iload rfl rfl ?_
    refine Ev_putI rfl (by first | rfl | assumption) ⟨rfl, rfl⟩ rfl ?_
    refine Ev_aload rfl rfl rfl ?_
    refine Ev_const rfl ?_
    refine Ev_putI rfl (by first | rfl | assumption) ⟨rfl, rfl⟩ rfl ?_
    refine Ev_aload rfl rfl rfl ?_
    refine Ev_const rfl ?_
    refine Ev_putI rfl (by first | rfl | assumption) ⟨rfl, rfl⟩ rfl ?_
    refine Ev_aload rfl rfl rfl ?_
    refine Ev_const rfl ?_
    refine Ev_putI rfl (by first | rfl | assumption) ⟨rfl, rfl⟩ rfl ?_
    refine Ev_aload rfl rfl rfl ?_
    refine Ev_const rfl ?_
    refine Ev_putI rfl (by first | rfl | assumption) ⟨rfl, rfl⟩ rfl ?_
    generalize hσ1 : sI (sI (sI (sI (sI σ 326 _) 326 _) 326 _) 326 _) 326 _ = σ1
    have e324 : σ1.1 326 = upd (upd (upd (upd (upd (σ.1 326) 50 (nI k)) 100 (nI 0)) 102 (nI 0)) 103 (nI 0)) 104 (nI 0) := by rw [← hσ1, sR_0, sR_0, sR_0, sR_0, sR_0]; rfl
    have ec : ∀ q, q ≠ 326 → σ1.1 q = σ.1 q := fun q hq => by rw [← hσ1, sR_1 _ _ hq, sR_1 _ _ hq, sR_1 _ _ hq, sR_1 _ _ hq, sR_1 _ _ hq]
    have el : σ1.2 = σ.2 := by rw [← hσ1]; rfl
    clear hσ1
    have hm : MRe σ σ1 := ⟨fun q hq _ => ec q hq, fun q _ _ => by rw [el], fun j hj => by rw [e324, pk_un (by intro z; rw [z] at hj; exact absurd hj (by decide)), pk_un (by intro z; rw [z] at hj; exact absurd hj (by decide)), pk_un (by intro z; rw [z] at hj; exact absurd hj (by decide)), pk_un (by intro z; rw [z] at hj; exact absurd hj (by decide)), pk_un (by intro z; rw [z] at hj; exact absurd hj (by decide))]⟩
    have fld : ∀ j, j ≠ 50 → j ≠ 100 → j ≠ 102 → j ≠ 103 → j ≠ 104 → σ1.1 326 j = σ.1 326 j := fun j j1 j2 j3 j4 j5 => by rw [e324, pk_un j5, pk_un j4, pk_un j3, pk_un j2, pk_un j1]
    have s1 : MTt σ1 U (.inr p) := H.1.kc (ec _ (by decide)) (fun j hj => by simp only [List.mem_cons, List.not_mem_nil, or_false] at hj; exact fld j (by omega) (by omega) (by omega) (by omega) (by omega))
    have H1 : MSt σ1 U Bo B (.inr p) := ⟨s1, H.2.1.k hm, H.2.2.1.eq (fun q hq => ec q (by simp only [List.mem_cons, List.not_mem_nil, or_false] at hq; omega)) (by rw [el]), H.2.2.2.eq (fun q hq => ec q (by simp only [List.mem_cons, List.not_mem_nil, or_false] at hq; omega)) (by rw [el]) (fld _ (by decide) (by decide) (by decide) (by decide) (by decide))⟩
    have hK : σ1.1 326 50 = nI k := by rw [e324, pk_un (by decide), pk_un (by decide), pk_un (by decide), pk_un (by decide), pk_us]
    have hq0 : MPq σ1 [] [] 0 := ⟨⟨by rw [e324, pk_un (by decide), pk_un (by decide), pk_un (by decide), pk_us]; rfl, fun j hj => absurd hj (Nat.not_lt_zero j), by rw [e324, pk_un (by decide), pk_un (by decide), pk_us]; rfl, trivial⟩, by rw [e324, pk_un (by decide), pk_us], Nat.le_refl _, Nat.zero_le _⟩
    refine Ev_iload rfl rfl ?_
    refine Ev_const rfl ?_
    by_cases hk3 : k = 3
    · subst hk3
      obtain ⟨⟨f, r, f1, f2, f3⟩, -⟩ := te_fin hT (show 3 < 5 by decide) hI
      rw [foX_3]
      generalize (lvl U 3 6).2.1 (.inr p, []) = y at *
      refine Ev_icmp_ne rfl (fun h58 => absurd rfl h58) (fun h58 => ?_)
      refine Ev_aload rfl rfl rfl ?_
      refine Ev_callV rfl rfl rfl rfl rfl (same_n 402) (m_qTest _ (P := p.1) (z := (.inr p, [], [], 0)) hρ hT (show 3 < 5 by decide) ⟨s1, fun _ => ⟨hq0, (fun e he => by cases he), by show 0 + 0 + p.1 ≤ p.1; omega⟩⟩ H1.2.1 hK f1) ?_
      rintro v62 ρ62 σ62 ⟨rfl, e62, s62, q62, c62⟩
      obtain rfl := e62.symm
      refine Ev_goto rfl ?_
      exact m_codesEnd _ (sr := r.1) (out := r.2.1 ++ r.2.2.1) (p := p) hρ hT hB hk hfl hf (H1.mb s62 c62) ⟨f2, fun z => (f3 z).1⟩ (fun z => (f3 z).2) q62 (hm.tr c62.k) _
    · obtain ⟨⟨f, r, f1, f2, f3⟩, -⟩ := su_fin hT (show k < 5 by omega) hI
      rw [foX_n U hk3]
      generalize (lvl U k 6).2.2.1 (.inr p, []) = y at *
      refine Ev_icmp_ne rfl (fun h58 => ?_) (fun h58 => absurd (fun z => hk3 ((nI_eq (b := 3) (by omega) (by decide)).mp z)) h58)
      refine Ev_aload rfl rfl rfl ?_
      refine Ev_callV rfl rfl rfl rfl rfl (same_n 402) (m_qSumsX _ (P := p.1) hρ hT (show k < 5 by omega) (W := []) (fun e he => by cases he) s1 H1.2.1 hK hq0 (by show 0 + 0 + p.1 ≤ p.1; omega) f1) ?_
      rintro v69 ρ69 σ69 ⟨rfl, e69, s69, q69, d69, c69⟩
      obtain rfl := e69.symm
      exact m_codesEnd _ (sr := r.1) (out := r.2) (p := p) hρ hT hB hk hfl hf (H1.mb s69 c69) ⟨f2, fun z => by rw [f3 z]⟩ (fun z => by rw [f3 z]) (fun z => ⟨(q69 z).1.1, by have := (q69 z).2; simpa using this⟩) (hm.tr c69.k) _
end S88zx
