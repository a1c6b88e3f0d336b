/-! A question's answer: the reference, all bathers. -/
def c2A (q : Nat) : Bool := Nat.beq q 367
def f2A (j : Nat) : Bool := fS j || Nat.beq j 58 || Nat.beq j 108
theorem f2A_f {j : Nat} (h : f2A j = false) : fS j = false ∧ j ≠ 58 ∧ fNw j = false := by
  unfold f2A at h
  simp only [Bool.or_eq_false_iff] at h
  exact ⟨h.1.1, fun z => by rw [z] at h; exact absurd h.1.2 (by decide), h.2⟩
theorem sc_2 {σ σ' : St} (h : MSc σ σ') : MA c2A f2A σ σ' := (h.mf (C := c2A) (Fd := f2A) (fun j hj => (f2A_f hj).1)).ma
theorem nw_2 {σ σ' : St} (h : MA (fun _ => false) fNw σ σ') : MA c2A f2A σ σ' := h.wk (fun _ _ => rfl) (fun j hj => (f2A_f hj).2.2)
theorem td_2 {σ σ' : St} {t : Nat} (h : MTd σ σ' t) : MA c2A f2A σ σ' := ⟨fun q hq _ => h.1 q hq, fun q j hq _ => by rw [h.2.1 q hq], fun j hj => h.2.2.1 j (f2A_f hj).1 (f2A_f hj).2.1⟩
theorem fs_2 {σ σ' : St} (h : MF c2A fS σ σ') : MA c2A f2A σ σ' := (h.wk (C' := c2A) (Fd' := f2A) (fun _ q => q) (fun j hj => (f2A_f hj).1)).ma
section S88zzp
variable {l : Launch} {X : Cx} {ρ : Rf} {B : Bh} {S : Str}
theorem ra_loop (d : Nat) {k h tide : Nat} {σ1 : St} {Q : Po} (hρ : RF ρ) (hR : MRd σ1 B S (wit B) h) (hF : MFrm σ1 B) (hW : WfN B) (hWt : WfT B) (hWf : WfF B) (hSw : WfS B S) (hw9 : ∀ b, wit B b ≤ 9) (hh : h ≤ 999) (hti : σ1.1 326 58 = nI tide) (ht9 : tide ≤ 9)
    (hQ : ∀ σ' L, (∀ i, i < nb B → σ'.1 367 i = nI (rset B (S i) i (wit B i) h tide)) → MF c2A fS σ1 σ' → Ev l X (d + 7) 290 196 [.ref 326, .int (nI k), L] [] 402 402 402 ρ σ' Q) :
    ∀ (m i : Nat) (σ : St), i + m = nb B → (∀ i', i' < i → σ.1 367 i' = nI (rset B (S i') i' (wit B i') h tide)) → MF c2A fS σ1 σ → Ev l X (d + 7) 290 171 [.ref 326, .int (nI k), .int (nI i)] [] 402 402 402 ρ σ Q := by
  have hb6 := hW.2.1
  intro m
  induction m with
  | zero =>
    intro i σ hm h1 h2
    obtain rfl : i = nb B := by omega
    have hR2 := hR.mf h2 rfl rfl
    refine Ev_iload rfl rfl ?_
    refine Ev_aload rfl rfl rfl ?_
    refine Ev_callV rfl rfl rfl rfl rfl (same_n 402) (m_batherMany _ hρ hR2.1) ?_
    rintro v173 ρ173 σ173 ⟨rfl, e173, g173⟩
    obtain rfl := e173.symm
    obtain rfl := g173.symm
    refine Ev_icmp_ge rfl (fun h176 => ?_) (fun h176 => absurd (nI_le (a := nb B) (b := nb B) (by omega) (by omega)) h176)
    exact hQ σ _ h1 h2
  | succ m ih =>
    intro i σ hm h1 h2
    have hR2 := hR.mf h2 rfl rfl
    refine Ev_iload rfl rfl ?_
    refine Ev_aload rfl rfl rfl ?_
    refine Ev_callV rfl rfl rfl rfl rfl (same_n 402) (m_batherMany _ hρ hR2.1) ?_
    rintro v173 ρ173 σ173 ⟨rfl, e173, g173⟩
    obtain rfl := e173.symm
    obtain rfl := g173.symm
    refine Ev_icmp_ge rfl (fun h176 => absurd h176 (nI_ge (by omega) (by omega))) (fun h176 => ?_)
    refine Ev_aload rfl rfl rfl ?_
    refine Ev_getR rfl (by first | rfl | assumption) (hρ _ _ _ rfl) ?_
    refine Ev_iload rfl rfl ?_
    refine Ev_aload rfl rfl rfl ?_
    refine Ev_iload rfl rfl ?_
    refine Ev_callV rfl rfl rfl rfl rfl (same_n 402) (m_readySet _ hρ hR2 (hF.mf h2 rfl) hW hWt hWf (fun b i => (hSw b i).1) hw9 (by omega) (by rw [h2.2.2 _ rfl]; exact hti) ht9 (by omega)) ?_
    rintro v186 ρ186 σ186 ⟨rfl, e186, t186⟩
    obtain rfl := e186.symm
    refine Ev_iast rfl (by first | rfl | assumption) (vp_in_nI (n := i) (show i < 6 by omega) (by decide)) ?_
    refine Ev_iincE rfl rfl (nI_1 i) ?_
    refine Ev_goto rfl ?_
    rw [nI_clamp (show i < 2 ^ 31 by omega)]
    refine ih (i + 1) _ (by omega) (fun i' hi' => ?_) ((h2.tr (t186.mf (C := c2A) (Fd := fS) (fun _ z => z))).tr (MF.cell _ (by decide) rfl))
    rw [sR_0]
    by_cases hz : i' = i
    · rw [hz, pk_us]
    · rw [pk_un hz, t186.1 _ (by decide)]; exact h1 i' (by omega)
theorem tq_loop (d : Nat) {k h tide : Nat} {cs : List Nat} {tf : Bool} {σ1 : St} {f : Nat → Int} {Q : Po} (hρ : RF ρ) (hk : k ≤ 5) (hf : ∀ b, f b = evF (fun s => ((seeF B (S b) b (wit B b) h tide 0 0 (rset B (S b) b (wit B b) h tide) s : Nat) : Int)) cs) (hR : MRd σ1 B S (wit B) h) (hW : WfN B) (hWt : WfT B) (hSw : WfS B S) (hw9 : ∀ b, wit B b ≤ 9) (hh : h ≤ 999) (hti : σ1.1 326 58 = nI tide) (ht9 : tide ≤ 9)
    (hty : wty 4 cs [] = some [tf]) (h01 : k ≤ 2 → tf = true) (hlen : cs.length ≤ 1600) (hc : σ1.1 326 100 = nI cs.length) (hcs : ∀ q, q < cs.length → σ1.1 398 q = nI (mc (cs.getD q 0)))
    (hrs : ∀ i, i < nb B → σ1.1 367 i = nI (rset B (S i) i (wit B i) h tide))
    (hQ : ∀ σ', MA (fun _ => false) f2A σ1 σ' → Q (some (.long (lI (qGo k f (nb B))))) ρ σ') :
    ∀ (m b : Nat) (σ : St), b + m = nb B → MA (fun _ => false) (fun j => fS j || fNw j) σ1 σ → σ.2 326 107 = lI (qGo k f b) → σ.1 326 108 = (if b = 0 then 1 else 0) → Ev l X (d + 7) 290 203 [.ref 326, .int (nI k), .int (nI b)] [] 402 402 402 ρ σ Q := by
  have hb6 := hW.2.1
  have hBd : ∀ b, b < nb B → Bd (f b) ∧ (tf = true → f b = 0 ∨ f b = 1) := fun b hb => by
    rw [hf b]
    exact evF_ok hty (fun s hs ho => seeBd hWt (hw9 b) (by omega) ht9 (by decide) (by decide) (fun _ => hb) hb6 (fun z => absurd z (by decide)) hs ho) (fun _ s h1 h2 => by
      obtain ⟨s', rfl⟩ : ∃ s', s = s' + 10 := ⟨s - 10, by omega⟩
      show Bd ((S b s' : Nat) : Int)
      have := (hSw b s').1
      exact ⟨by omega, by omega⟩)
  intro m
  induction m with
  | zero =>
    intro b σ hm h1 h2 h3
    obtain rfl : b = nb B := by omega
    have hR2 := hR.ma h1 rfl rfl
    refine Ev_iload rfl rfl ?_
    refine Ev_aload rfl rfl rfl ?_
    refine Ev_callV rfl rfl rfl rfl rfl (same_n 402) (m_batherMany _ hρ hR2.1) ?_
    rintro v205 ρ205 σ205 ⟨rfl, e205, g205⟩
    obtain rfl := e205.symm
    obtain rfl := g205.symm
    refine Ev_icmp_ge rfl (fun h208 => ?_) (fun h208 => absurd (nI_le (a := nb B) (b := nb B) (by omega) (by omega)) h208)
    refine Ev_aload rfl rfl rfl ?_
    refine Ev_getL rfl (by first | rfl | assumption) ?_
    refine Ev_normL h2 ?_
    exact Ev_lreturn rfl rfl rfl (hQ σ (h1.wk (fun _ q => q) (fun j hj => by show (fS j || fNw j) = false; rw [(f2A_f hj).1, (f2A_f hj).2.2]; rfl)))
  | succ m ih =>
    intro b σ hm h1 h2 h3
    have hbn : b < nb B := by omega
    have hR2 := hR.ma h1 rfl rfl
    have s1 : MSc σ (sI σ 326 (upd (σ.1 326) 55 (nI b))) := MSc.put σ _ rfl
    have hR3 := hR2.sc s1
    have ff : ∀ j, fS j = false → fNw j = false → ∀ σ', MSc σ σ' → σ'.1 326 j = σ1.1 326 j := fun j j1 j2 σ' hs => by rw [hs.2.2 j j1, h1.2.2 j (by show (fS j || fNw j) = false; rw [j1, j2]; rfl)]
    have hA : MAll (sI σ 326 (upd (σ.1 326) 55 (nI b))) B S (wit B) h tide 4 b 0 0 := ⟨hR3.1, hR3.2.1, hR3.2.2.1, hR3.2.2.2.1, hR3.2.2.2.2, fun _ => by rw [ff _ rfl rfl _ s1]; exact hti, fun _ => ⟨by rw [sR_0, pk_us], hbn⟩, fun z => absurd z (by decide), fun z => absurd z (by decide)⟩
    have e4 : ∀ q, q ≠ 326 → (sI σ 326 (upd (σ.1 326) 55 (nI b))).1 q = σ1.1 q := fun q hq => by rw [sR_1 _ _ hq, h1.1 q hq rfl]
    refine Ev_iload rfl rfl ?_
    refine Ev_aload rfl rfl rfl ?_
    refine Ev_callV rfl rfl rfl rfl rfl (same_n 402) (m_batherMany _ hρ hR2.1) ?_
    rintro v205 ρ205 σ205 ⟨rfl, e205, g205⟩
    obtain rfl := e205.symm
    obtain rfl := g205.symm
    refine Ev_icmp_ge rfl (fun h208 => absurd h208 (nI_ge (by omega) (by omega))) (fun h208 => ?_)
    refine Ev_aload rfl rfl rfl ?_
    refine Ev_iload rfl rfl ?_
    refine Ev_putI rfl (by first | rfl | assumption) ⟨rfl, rfl⟩ rfl ?_
    refine Ev_aload rfl rfl rfl ?_
    refine Ev_iload rfl rfl ?_
    refine Ev_aload rfl rfl rfl ?_
    refine Ev_iload rfl rfl ?_
    refine Ev_callV rfl rfl rfl rfl rfl (same_n 402) (m_qTold _ (cs := cs) (tf := tf) (h := h) (tide := tide) (R := rset B (S b) b (wit B b) h tide) hρ hlen (by rw [ff _ rfl rfl _ s1]; exact hc) (fun q hq => by rw [e4 _ (by decide)]; exact hcs q hq) hty hA hW hWt hSw hw9 (by omega) ht9 (by omega) (by rw [e4 _ (by decide)]; exact hrs b hbn) (kset_lt _ _)) ?_
    rintro v220 ρ220 σ220 ⟨rfl, e220, g, n, hg⟩
    refine Ev_normL (by rw [← hf b] : _ = lI (f b)) ?_
    obtain rfl := e220.symm
    subst hg
    refine Ev_iload rfl rfl ?_
    refine Ev_callV rfl rfl rfl rfl rfl (same_n 402) (m_qTakes _ (g := qGo k f b) (v := f b) hk (by omega) (qGo_Bl (by omega) (fun i hi => (hBd i (by omega)).1)) (hBd b hbn).1 (by rw [(MSc.mp _ g n).2.1 326 (by decide)]; exact h2) (by rw [(MSc.mp _ g n).2.2 _ rfl, sR_0, pk_un (by decide)]; exact h3) (fun z => (hBd b hbn).2 (h01 z))) ?_
    rintro v224 ρ224 σ224 ⟨rfl, e224, a224, n224, m224⟩
    obtain rfl := e224.symm
    refine Ev_iincE rfl rfl (nI_1 b) ?_
    refine Ev_goto rfl ?_
    refine ih (b + 1) σ224 (by omega) ((h1.tr ((s1.tr (MSc.mp _ g n)).mf (C := fun _ => false) (Fd := fun j => fS j || fNw j) (fun j hj => (Bool.or_eq_false_iff.mp hj).1)).ma).tr (m224.wk (fun _ q => q) (fun j hj => (Bool.or_eq_false_iff.mp hj).2))) a224 (by rw [n224, if_neg (Nat.succ_ne_zero b)])
theorem m_askEnd (d : Nat) {k h : Nat} {cs : List Nat} {tf : Bool} {σ : St} {f : Nat → Int} {L : Value} {Q : Po} (hρ : RF ρ) (hk : k ≤ 5) (hf : ∀ b, f b = evF (fun s => ((seeF B (S b) b (wit B b) h (tdM B h) 0 0 (rset B (S b) b (wit B b) h (tdM B h)) s : Nat) : Int)) cs) (hR : MRd σ B S (wit B) h) (hF : MFrm σ B) (hW : WfN B) (hWt : WfT B) (hWf : WfF B) (hSw : WfS B S) (hw9 : ∀ b, wit B b ≤ 9) (hh : h ≤ 999)
    (hty : wty 4 cs [] = some [tf]) (h01 : k ≤ 2 → tf = true) (hlen : cs.length ≤ 1600) (hc : σ.1 326 100 = nI cs.length) (hcs : ∀ q, q < cs.length → σ.1 398 q = nI (mc (cs.getD q 0)))
    (hQ : ∀ σ', MA c2A f2A σ σ' → Q (some (.long (lI (qGo k f (nb B))))) ρ σ') :
    Ev l X (d + 7) 290 144 [.ref 326, .int (nI k), L] [] 402 402 402 ρ σ Q := by
  have ht9 := tdM_le B h
  have go : ∀ x, x = lI (qGo k f 0) → Ev l X (d + 7) 290 157 [.ref 326, .int (nI k), L] [.long x, .ref 326] 402 402 402 ρ σ Q := by
    intro x hx
    subst hx
    have ma1 : MA c2A f2A σ (sI (sL σ 326 (vp_updL (σ.2 326) 107 (lI (qGo k f 0)))) 326 (upd (σ.1 326) 108 1)) := (ma_an _).tr (nw_2 (ma_nw (σ := sL σ 326 (vp_updL (σ.2 326) 107 (lI (qGo k f 0)))) 1))
    have hR1 := hR.ma ma1 rfl rfl
    have hF1 := hF.ma ma1 rfl
    refine Ev_putL rfl (by first | rfl | assumption) rfl rfl ?_
    refine Ev_aload rfl rfl rfl ?_
    refine Ev_const rfl ?_
    refine Ev_putI rfl (by first | rfl | assumption) ⟨rfl, rfl⟩ rfl ?_
    refine Ev_aload rfl rfl rfl ?_
    refine Ev_callV rfl rfl rfl rfl rfl (same_n 402) (m_laysTide _ hρ hR1 hF1 hW hWt hWf (fun b i => (hSw b i).1) hw9 (by omega)) ?_
    rintro v166 ρ166 σ166 ⟨rfl, e166, t166⟩
    obtain rfl := e166.symm
    refine Ev_const rfl ?_
    refine Ev_istore rfl ?_
    have ma2 := ma1.tr (td_2 t166)
    have a0 : σ166.2 326 107 = lI (qGo k f 0) := by
      rw [t166.2.1 326 (by decide)]
      show (sL σ 326 (vp_updL (σ.2 326) 107 (lI (qGo k f 0)))).2 326 107 = _
      rw [sL_0, updL_s]
    have n0 : σ166.1 326 108 = 1 := by rw [t166.2.2.1 _ rfl (by decide), sR_0, pk_us]
    refine ra_loop d (tide := tdM B h) hρ (hR.ma ma2 rfl rfl) (hF.ma ma2 rfl) hW hWt hWf hSw hw9 hh t166.2.2.2 ht9 (fun σ2 L2 r2 m2 => ?_) (nb B) 0 σ166 (Nat.zero_add _) (fun i hi => absurd hi (Nat.not_lt_zero i)) (MF.rf _ _ _)
    have s3 : MSc σ2 (sI σ2 326 (upd (σ2.1 326) 50 (nI 4))) := MSc.put σ2 _ rfl
    have ma3 := (ma2.tr (fs_2 m2)).tr (sc_2 s3)
    refine Ev_aload rfl rfl rfl ?_
    refine Ev_const rfl ?_
    refine Ev_putI rfl (by first | rfl | assumption) ⟨rfl, rfl⟩ rfl ?_
    refine Ev_const rfl ?_
    refine Ev_istore rfl ?_
    refine tq_loop d (tide := tdM B h) (tf := tf) (f := f) hρ hk hf (hR.ma ma3 rfl rfl) hW hWt hSw hw9 hh (by rw [s3.2.2 _ rfl, m2.2.2 _ rfl]; exact t166.2.2.2) ht9 hty h01 hlen (by rw [ma3.2.2 _ rfl]; exact hc) (fun q hq => by rw [ma3.1 _ (by decide) rfl]; exact hcs q hq) (fun i hi => by rw [s3.1 _ (by decide)]; exact r2 i hi) (fun σ' h' => hQ σ' (ma3.tr (h'.wk (fun _ _ => rfl) (fun _ z => z)))) (nb B) 0 _ (Nat.zero_add _) (MA.rf _ _ _) ?_ ?_
    · show σ2.2 326 107 = _
      rw [m2.2.1 326 (by decide)]; exact a0
    · exact (s3.2.2 108 rfl).trans ((m2.2.2 108 rfl).trans n0)
  have e0 : qGo k f 0 = if k ≤ 1 then -1 else 0 := rfl
  refine Ev_aload rfl rfl rfl ?_
  refine Ev_iload rfl rfl ?_
  refine Ev_const rfl ?_
  refine Ev_icmp_ge rfl (fun h147 => ?_) (fun h147 => ?_)
  · refine Ev_constL rfl ?_
    refine go _ ?_
    rw [e0, if_neg (fun z => by have := (nI_leI (a := 2) (b := k) (by decide) (by omega)).mp h147; omega)]; rfl
  · refine Ev_constL rfl ?_
    refine Ev_goto rfl ?_
    refine go _ ?_
    rw [e0, if_pos (Nat.le_of_not_lt (fun z => h147 ((nI_leI (a := 2) (b := k) (by decide) (by omega)).mpr z)))]; rfl
end S88zzp
