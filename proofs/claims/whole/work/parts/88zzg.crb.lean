/-! A beach read by the class: finished, read whole. -/
theorem rf_317 {ρ : Rf} (hρ : RF ρ) (q : Nat) : RF (sR ρ 317 (va_up (ρ 317) 2 (some q))) := by
  intro k j x h
  by_cases hk : k = 317
  · subst hk
    by_cases hj : j = 2
    · subst hj; cases h
    · have e : sR ρ 317 (va_up (ρ 317) 2 (some q)) 317 j = ρ 317 j := by simp [sR, va_up, hj]
      rw [e]; exact hρ _ _ _ h
  · have e : sR ρ 317 (va_up (ρ 317) 2 (some q)) k j = ρ k j := by simp [sR, hk]
    rw [e]; exact hρ _ _ _ h
theorem rf_317b {ρ : Rf} (q : Nat) : sR ρ 317 (va_up (ρ 317) 2 (some q)) 317 2 = some q := by simp [sR, va_up]
theorem rf_317n {ρ : Rf} (q : Nat) {k j : Nat} (h : k ≠ 317) : sR ρ 317 (va_up (ρ 317) 2 (some q)) k j = ρ k j := by simp [sR, h]
theorem cor_0 {σ : St} {q n : Nat} (hn : n ≤ 1620) (h : σ.1 (q + 10) 4 = nI n) : COr σ (q + 10) n [] := by
  refine ⟨hn, ?_, fun j hj => absurd hj (Nat.not_lt_zero j)⟩
  rw [h]
  show nI n = nI (if n + 0 < 1620 then n + 0 else 1620)
  by_cases hz : n + 0 < 1620
  · rw [if_pos hz]; rfl
  · rw [if_neg hz, show n = 1620 by omega]
theorem cor_b {q bs : Nat} {σ σ' : St} (h : CF (cOr (q + 10) bs) σ σ') : CF (fun k _ => cBq q k) σ σ' := h.wk (fun k j z => by
  have := cBq_f z
  exact cOr_f (by omega) (by omega))
theorem cor_r {q bs : Nat} {σ σ' : St} (h : CF (cOr (q + 10) bs) σ σ') {r : Nat} (h1 : r ≠ 10) (h2 : r ≠ 11) : σ'.1 (q + r) = σ.1 (q + r) := funext fun j => h.1 _ _ (cOr_f (by omega) (by omega))
theorem cor_c {q bs j : Nat} {σ σ' : St} (h : CF (cOr (q + 10) bs) σ σ') (hj : j < bs) : σ'.1 (q + 11) j = σ.1 (q + 11) j := h.1 _ _ (by
  unfold cOr
  have : Nat.ble bs j = false := by
    cases hz : Nat.ble bs j with
    | false => rfl
    | true => have := Nat.ble_eq.mp hz; omega
  rw [nbeq (show q + 11 ≠ q + 10 by omega), this, Bool.and_false]; rfl)
section S88zzg
variable {l : Launch} {X : Cx} {ρ : Rf} {U : Tx} {q : Nat} {B : Bh}
theorem t_finR (d : Nat) {σ0 : St} (hq : q = 2 ∨ q = 17) (hρ : RF ρ) (L2 : Value) {Q : Po} (hQ : ∀ σ' L L2, CF (fun k _ => cBq q k) σ0 σ' → Ev l X (d + 3) 8 114 [.ref q, L, L2] [] 402 402 402 ρ σ' Q) :
    ∀ (m k : Nat) (σ : St), k + m = 4 → (∃ n, n ≤ 1620 ∧ σ.1 (q + 10) 4 = nI n) → CF (fun k _ => cBq q k) σ0 σ → Ev l X (d + 3) 8 71 [.ref q, .int (nI k), L2] [] 402 402 402 ρ σ Q := by
  obtain ⟨bO, -, -, -, -, ro, io⟩ := bo hq hρ
  have hOk : OkO (q + 10) := by rcases hq with rfl | rfl; exact Or.inl rfl; exact Or.inr (Or.inl rfl)
  intro m
  induction m with
  | zero =>
    intro k σ hm hn hc
    obtain rfl : k = 4 := by omega
    refine Ev_iload rfl rfl ?_
    refine Ev_const rfl ?_
    refine Ev_icmp_ge rfl (fun h73 => ?_) (fun h73 => absurd (nI_le (a := 4) (b := 4) (by omega) (by omega)) h73)
    exact hQ σ _ _ hc
  | succ m ih =>
    intro k σ hm hn hc
    obtain ⟨n, hn1, hn2⟩ := hn
    refine Ev_iload rfl rfl ?_
    refine Ev_const rfl ?_
    refine Ev_icmp_ge rfl (fun h73 => absurd h73 (nI_ge (b := 4) (by omega) (by omega))) (fun h73 => ?_)
    refine Ev_aload rfl rfl rfl ?_
    refine Ev_getR rfl (by first | rfl | assumption) (by first | exact hρ rfl | assumption) ?_
    refine Ev_iload rfl rfl ?_
    refine Ev_callV rfl rfl rfl io rfl (same_n 402) (t_isTold _ hρ hOk (by omega)) ?_
    rintro v81 ρ81 σ81 ⟨rfl, e81, g81⟩
    obtain rfl := e81.symm
    obtain rfl := g81.symm
    refine Ev_if_ne rfl (fun h84 => ?_) (fun h84 => ?_)
    · refine Ev_iincE rfl rfl (nI_1 k) ?_
      refine Ev_goto rfl ?_
      exact ih (k + 1) σ (by omega) ⟨n, hn1, hn2⟩ hc
    · refine Ev_aload rfl rfl rfl ?_
      refine Ev_getR rfl (by first | rfl | assumption) (by first | exact hρ rfl | assumption) ?_
      refine Ev_iload rfl rfl ?_
      refine Ev_callV rfl rfl rfl io rfl (same_n 402) (t_ordBegin _ hρ hOk (by omega)) ?_
      rintro v92 ρ92 σ92 ⟨rfl, e92, g92⟩
      obtain rfl := e92.symm
      obtain rfl := g92.symm
      refine Ev_aload rfl rfl rfl ?_
      refine Ev_iload rfl rfl ?_
      refine Ev_callV rfl rfl rfl bO rfl (same_n 402) (t_addUntold _ hq hρ (by omega) (cor_0 hn1 (by rw [sR_1 _ _ (by omega)]; exact hn2))) ?_
      rintro v97 ρ97 σ97 ⟨rfl, e97, o97, c97⟩
      obtain rfl := e97.symm
      refine Ev_aload rfl rfl rfl ?_
      refine Ev_getR rfl (by first | rfl | assumption) (by first | exact hρ rfl | assumption) ?_
      refine Ev_iload rfl rfl ?_
      refine Ev_callV rfl rfl rfl io rfl (same_n 402) (t_ordFinish _ hρ hOk (by omega)) ?_
      rintro v105 ρ105 σ105 ⟨rfl, e105, g105⟩
      obtain rfl := e105.symm
      obtain rfl := g105.symm
      refine Ev_iincE rfl rfl (nI_1 k) ?_
      refine Ev_goto rfl ?_
      refine ih (k + 1) _ (by omega) ⟨_, ?_, by rw [sR_1 _ _ (by omega)]; exact o97.2.1⟩ (((hc.tr (cf_cell (r := 12) _ (by decide))).tr (cor_b c97)).tr (cf_cell (r := 13) _ (by decide)))
      split <;> omega
theorem t_finX (d : Nat) {σ0 : St} (hq : q = 2 ∨ q = 17) (hρ : RF ρ) (hf : flen B ≤ 1600) (L2 : Value) {Q : Po} (hQ : ∀ σ' L L2, CFn σ' q B (ni B) → CFi σ' q B 4 (szU B 4) → CF (fun k _ => cBq q k) σ0 σ' → Ev l X (d + 3) 8 114 [.ref q, L, L2] [] 402 402 402 ρ σ' Q) :
    ∀ (m k : Nat) (σ : St), k + m = 4 → σ.1 (q + 10) 4 = nI (szU B k) → CFn σ q B (ni B) → CFi σ q B k (szU B k) → CF (fun k _ => cBq q k) σ0 σ → Ev l X (d + 3) 8 71 [.ref q, .int (nI k), L2] [] 402 402 402 ρ σ Q := by
  obtain ⟨bO, -, -, -, -, ro, io⟩ := bo hq hρ
  have hOk : OkO (q + 10) := by rcases hq with rfl | rfl; exact Or.inl rfl; exact Or.inr (Or.inl rfl)
  intro m
  induction m with
  | zero =>
    intro k σ hm hs hN hF hc
    obtain rfl : k = 4 := by omega
    refine Ev_iload rfl rfl ?_
    refine Ev_const rfl ?_
    refine Ev_icmp_ge rfl (fun h73 => ?_) (fun h73 => absurd (nI_le (a := 4) (b := 4) (by omega) (by omega)) h73)
    exact hQ σ _ _ hN hF hc
  | succ m ih =>
    intro k σ hm hs hN hF hc
    have hk : k < 4 := by omega
    have hsz := szU_up B k (by omega)
    have hsz1 := szU_up B (k + 1) (by omega)
    have hst : szU B (k + 1) = szU B k + unL B k := rfl
    have g := hF k hk
    cases hfr : frm B k with
    | some cs =>
      have hu : unL B k = 0 := by unfold unL; rw [hfr]
      rw [if_pos (Or.inr (by rw [hfr]; intro z; cases z))] at g
      obtain ⟨a, b, g1, g2, g3, g4, g5⟩ := g
      refine Ev_iload rfl rfl ?_
      refine Ev_const rfl ?_
      refine Ev_icmp_ge rfl (fun h73 => absurd h73 (nI_ge (b := 4) (by omega) (by omega))) (fun h73 => ?_)
      refine Ev_aload rfl rfl rfl ?_
      refine Ev_getR rfl (by first | rfl | assumption) (by first | exact hρ rfl | assumption) ?_
      refine Ev_iload rfl rfl ?_
      refine Ev_callV rfl rfl rfl io rfl (same_n 402) (t_isTold _ hρ hOk (by omega)) ?_
      rintro v81 ρ81 σ81 ⟨rfl, e81, g81⟩
      obtain rfl := e81.symm
      obtain rfl := g81.symm
      refine Ev_norm (by rw [decide_eq_false (show ¬ σ.1 (q + 10 + 2) k = -1 from fun z => nI_m1 (n := a) (by omega) (g1.symm.trans z))]; rfl : _ = bI true) ?_
      refine Ev_if_ne rfl (fun h84 => ?_) (fun h84 => absurd (show ¬ bI true = 0 by decide) h84)
      refine Ev_iincE rfl rfl (nI_1 k) ?_
      refine Ev_goto rfl ?_
      refine ih (k + 1) σ (by omega) (by rw [hst, hu]; exact hs) hN (fun j hj => ?_) hc
      rw [hst, hu, Nat.add_zero]
      by_cases hz : j = k
      · subst hz
        rw [if_pos (Or.inl (by omega))]
        exact ⟨a, b, g1, g2, g3, g4, g5⟩
      · have g' := hF j hj
        by_cases hc2 : j < k ∨ frm B j ≠ none
        · rw [if_pos hc2] at g'
          rw [if_pos (hc2.elim (fun z => Or.inl (by omega)) Or.inr)]
          exact g'
        · rw [if_neg hc2] at g'
          rw [if_neg (fun z => hc2 (z.elim (fun z => Or.inl (by omega)) Or.inr))]
          exact g'
    | none =>
      have hu : unL B k = (unt k).length := by unfold unL; rw [hfr]
      have ecod : cod B k = unt k := by unfold cod; rw [hfr]
      rw [if_neg (fun z => z.elim (fun z => by omega) (fun z => z hfr))] at g
      refine Ev_iload rfl rfl ?_
      refine Ev_const rfl ?_
      refine Ev_icmp_ge rfl (fun h73 => absurd h73 (nI_ge (b := 4) (by omega) (by omega))) (fun h73 => ?_)
      refine Ev_aload rfl rfl rfl ?_
      refine Ev_getR rfl (by first | rfl | assumption) (by first | exact hρ rfl | assumption) ?_
      refine Ev_iload rfl rfl ?_
      refine Ev_callV rfl rfl rfl io rfl (same_n 402) (t_isTold _ hρ hOk (by omega)) ?_
      rintro v81 ρ81 σ81 ⟨rfl, e81, g81⟩
      obtain rfl := e81.symm
      obtain rfl := g81.symm
      refine Ev_norm (by rw [decide_eq_true (show σ.1 (q + 10 + 2) k = -1 from g)]; rfl : _ = bI false) ?_
      refine Ev_if_ne rfl (fun h84 => absurd rfl h84) (fun h84 => ?_)
      refine Ev_aload rfl rfl rfl ?_
      refine Ev_getR rfl (by first | rfl | assumption) (by first | exact hρ rfl | assumption) ?_
      refine Ev_iload rfl rfl ?_
      refine Ev_callV rfl rfl rfl io rfl (same_n 402) (t_ordBegin _ hρ hOk (by omega)) ?_
      rintro v92 ρ92 σ92 ⟨rfl, e92, g92⟩
      obtain rfl := e92.symm
      obtain rfl := g92.symm
      refine Ev_aload rfl rfl rfl ?_
      refine Ev_iload rfl rfl ?_
      refine Ev_callV rfl rfl rfl bO rfl (same_n 402) (t_addUntold _ (bs := szU B k) hq hρ (by omega) (cor_0 (by omega) (by rw [sR_1 _ _ (by omega)]; exact hs))) ?_
      rintro v97 ρ97 σ97 ⟨rfl, e97, o97, c97⟩
      obtain rfl := e97.symm
      refine Ev_aload rfl rfl rfl ?_
      refine Ev_getR rfl (by first | rfl | assumption) (by first | exact hρ rfl | assumption) ?_
      refine Ev_iload rfl rfl ?_
      refine Ev_callV rfl rfl rfl io rfl (same_n 402) (t_ordFinish _ hρ hOk (by omega)) ?_
      rintro v105 ρ105 σ105 ⟨rfl, e105, g105⟩
      obtain rfl := e105.symm
      obtain rfl := g105.symm
      refine Ev_iincE rfl rfl (nI_1 k) ?_
      refine Ev_goto rfl ?_
      have hsn : σ97.1 (q + 10) 4 = nI (szU B k + (unt k).length) := by have := o97.2.1; rw [if_pos (show szU B k + (unt k).length < 1620 by omega)] at this; exact this
      rw [hsn]
      have c97 : CF (cOr (q + 10) (szU B k)) (sI σ (q + 12) (upd (σ.1 (q + 12)) k (nI (szU B k)))) σ97 := by rw [← hs]; exact c97
      have e1 : ∀ r, r ≠ 12 → (sI σ (q + 12) (upd (σ.1 (q + 12)) k (nI (szU B k)))).1 (q + r) = σ.1 (q + r) := fun r hr => sR_1 _ _ (by omega)
      have e2 : ∀ {r : Nat}, r ≠ 10 → r ≠ 11 → σ97.1 (q + r) = (sI σ (q + 12) (upd (σ.1 (q + 12)) k (nI (szU B k)))).1 (q + r) := fun h1 h2 => cor_r c97 h1 h2
      have e3 : ∀ r, r ≠ 13 → (sI σ97 (q + 13) (upd (σ97.1 (q + 13)) k (nI (szU B k + (unt k).length)))).1 (q + r) = σ97.1 (q + r) := fun r hr => sR_1 _ _ (by omega)
      refine ih (k + 1) (sI σ97 (q + 13) (upd (σ97.1 (q + 13)) k (nI (szU B k + (unt k).length)))) (by omega) ?_ (hN.eq (fun r hr => ?_)) (fun j hj => ?_) (((hc.tr (cf_cell (r := 12) _ (by decide))).tr (cor_b c97)).tr (cf_cell (r := 13) _ (by decide)))
      · rw [e3 10 (by decide), hsn, hst, hu]
      · rw [e3 r (by omega), e2 (by omega) (by omega), e1 r (by omega)]
      · have e13 : (sI σ97 (q + 13) (upd (σ97.1 (q + 13)) k (nI (szU B k + (unt k).length)))).1 (q + 12) = upd (σ.1 (q + 12)) k (nI (szU B k)) := by rw [e3 12 (by decide), e2 (by decide) (by decide), sR_0]
        have e14 : (sI σ97 (q + 13) (upd (σ97.1 (q + 13)) k (nI (szU B k + (unt k).length)))).1 (q + 13) = upd (σ.1 (q + 13)) k (nI (szU B k + (unt k).length)) := by rw [sR_0, e2 (by decide) (by decide), e1 13 (by decide)]
        have e11 : (sI σ97 (q + 13) (upd (σ97.1 (q + 13)) k (nI (szU B k + (unt k).length)))).1 (q + 11) = σ97.1 (q + 11) := e3 11 (by decide)
        rw [e13, e14, e11, hst, hu]
        by_cases hz : j = k
        · subst hz
          rw [if_pos (Or.inl (by omega)), ecod]
          exact ⟨szU B j, szU B j + (unt j).length, pk_us, pk_us, rfl, Nat.le_refl _, fun i hi => o97.2.2 i hi (by omega)⟩
        · have g' := hF j hj
          rw [pk_un hz, pk_un hz]
          by_cases hc2 : j < k ∨ frm B j ≠ none
          · rw [if_pos hc2] at g'
            rw [if_pos (hc2.elim (fun z => Or.inl (by omega)) Or.inr)]
            obtain ⟨a, b, k1, k2, k3, k4, k5⟩ := g'
            exact ⟨a, b, k1, k2, k3, by omega, fun i hi => by rw [cor_c c97 (by omega), sR_1 _ _ (by omega)]; exact k5 i hi⟩
          · rw [if_neg hc2] at g'
            rw [if_neg (fun z => hc2 (z.elim (fun z => Or.inl (by omega)) Or.inr))]
            exact g'
theorem t_finish (d : Nat) {σ : St} {s : Rdg} (hq : q = 2 ∨ q = 17) (hρ : RF ρ) (H : CRo σ q) (HN : isOk s = true → CNew σ q B ∧ WfB B ∧ flen B ≤ 1600) :
    T l X (d + 3) 8 [.ref q] 402 402 ρ σ (fun v ρ' σ' => v = none ∧ ρ' = ρ ∧ (isOk s = true → CFn σ' q B (ni B) ∧ CFi σ' q B 4 (szU B 4)) ∧ CF (fun k _ => cBq q k) σ σ') := by
  refine T_of rfl ?_
  cases ho : isOk s with
  | false =>
    obtain ⟨⟨n, n1, n2⟩, -, -, ⟨z, z1, z2⟩⟩ := H
    refine Ev_const rfl ?_
    refine Ev_istore rfl ?_
    refine t_rootsR (d + 3) hq hρ n1 (fun σ1 L L2 h1 c1 => ?_) n 0 σ _ (Nat.zero_add _) n2 (fun _ _ _ => rfl) (CF.rf _ _)
    refine Ev_const rfl ?_
    refine Ev_istore rfl ?_
    refine t_finR d hq hρ _ (fun σ2 L3 L4 c2 => ?_) 4 0 σ1 rfl ⟨z, z1, by rw [h1 10 (by decide) (by decide)]; exact z2⟩ (CF.rf _ _)
    exact Ev_return rfl rfl rfl ⟨rfl, rfl, (fun z => by cases z), c1.tr c2⟩
  | true =>
    obtain ⟨HC, hB, hf⟩ := HN ho
    obtain ⟨g1, gi, gb, gp, gf, gs⟩ := HC
    refine Ev_const rfl ?_
    refine Ev_istore rfl ?_
    refine t_rootsX (d + 3) hq hρ hB (fun σ1 L L2 h0 h1 c1 => ?_) (ni B) 0 σ _ (Nat.zero_add _) ⟨g1, gi, gb, gp, fun i hi => absurd hi (Nat.not_lt_zero i)⟩ (fun _ _ _ => rfl) (CF.rf _ _)
    have hF : CFi σ1 q B 0 (flen B) := by
      have := gf.fi
      unfold CFi at this ⊢
      rw [h1 12 (by decide) (by decide), h1 13 (by decide) (by decide), h1 11 (by decide) (by decide)]
      exact this
    refine Ev_const rfl ?_
    refine Ev_istore rfl ?_
    refine t_finX d hq hρ hf _ (fun σ2 L3 L4 n2 f2 c2 => ?_) 4 0 σ1 rfl (by rw [h1 10 (by decide) (by decide)]; exact gs) h0 hF (CF.rf _ _)
    exact Ev_return rfl rfl rfl ⟨rfl, rfl, fun _ => ⟨n2, f2⟩, c1.tr c2⟩
/-- references as reading a beach needs them -/
def RbR (q : Nat) (ρ ρ2 : Rf) : Prop := RF ρ2 ∧ ρ2 317 2 = some q ∧ ∀ k j, k ≠ 317 → k ≠ 318 → ρ2 k j = ρ k j
/-- behind a statement nothing is touched -/
def NtT (s : Rdg) : Prop := ∀ a tc, s = .inr (a, tc) → tc = 0
theorem nt_lk {s : Rdg} (h : NtT s) (hk : lkC U s = none) (he : isOk s = true) : ∃ p, lkS U s = .inr p ∧ U.1 ≤ p.1 := by
  cases s with
  | inl e => cases he
  | inr p =>
    obtain ⟨a, tc⟩ := p
    have h0 := h a tc rfl
    subst h0
    obtain ⟨r1, r2, r3⟩ := lk_r (U := U) (a, 0)
    by_cases hl : U.1 ≤ skp U a
    · exact ⟨_, (r1 hl).1, hl⟩
    · have hc : cfl U (skp U (a, 0).1) (tcN U (a, 0).1 (a, 0).2) = false := by
        have : tcN U a 0 = 0 := by unfold tcN; split <;> rfl
        show cfl U (skp U a) (tcN U a 0) = false
        rw [this]; rfl
      rw [(r3 (by show skp U a < U.1; omega) hc).2] at hk
      cases hk
theorem nt_aS (c : Nat) (s : Rdg) : NtT (aSg U c s) := by
  intro a tc h
  unfold aSg at h
  split at h
  · cases hl : lkS U s with
    | inl e => rw [hl] at h; cases h
    | inr p => rw [hl] at h; have := Sum.inr.inj h; exact (congrArg Prod.snd this).symm
  · cases hl : lkS U s with
    | inl e => rw [hl] at h; cases h
    | inr p => rw [hl] at h; cases h
/-- what stands here is the end: nothing goes on -/
theorem CTe.end {σ : St} {s : Rdg} (hT : TxW U) (hn : NtT s) (H : CTe σ U s) : σ.1 316 2 = -1 ↔ lkC U s = none := by
  obtain ⟨s0, h1, h2, h3, -, -, h6⟩ := H.t.here
  constructor
  · intro z
    rcases hcd_c (U := U) s with ⟨k1, k2⟩ | ⟨a, tc, k1, k2, k3, k4⟩
    · exact k1
    · have hh : σ.1 316 2 = hcd U s := by
        cases s with
        | inl e => exact H.2.2.2.2
        | inr p => exact H.2.2.2.2.2.1
      rw [hh, k4] at z
      exact absurd z (nI_m1 (by
        rcases tkc_r hT a with ⟨g1, g2⟩ | ⟨g1, g2, g3⟩ | ⟨g1, g2, g3, g4⟩
        · have := wcd_lt (wrd U a); omega
        · omega
        · omega))
  · intro z
    cases hs : isOk s with
    | false =>
      obtain ⟨e, rfl⟩ := not_inl hs
      exact H.2.2.2.2
    | true =>
      obtain ⟨p, k1, k2⟩ := nt_lk hn z hs
      cases s with
      | inl e => cases hs
      | inr p0 =>
        have hh : σ.1 316 2 = hcd U (.inr p0) := H.2.2.2.2.2.1
        rw [hh]
        have e : p.1 = skp U p0.1 := by
          obtain ⟨r1, r2, r3⟩ := lk_r (U := U) p0
          by_cases hl : U.1 ≤ skp U p0.1
          · rw [(r1 hl).1] at k1; exact (congrArg Prod.fst (Sum.inr.inj k1)).symm
          · cases hc : cfl U (skp U p0.1) (tcN U p0.1 p0.2) with
            | true => rw [(r2 (by omega) hc).1] at k1; cases k1
            | false => rw [(r3 (by omega) hc).1] at k1; exact (congrArg Prod.fst (Sum.inr.inj k1)).symm
        unfold hcd
        show (if _ then _ else _) = _
        rw [if_pos (by rw [← e]; exact k2)]
theorem t_rbLoop (d : Nat) {σ0 : St} (hq : q = 2 ∨ q = 17) (hT : TxW U) {Q : Po} : ∀ (m c : Nat) (x : Rdg × Bh) (ρ2 : Rf) (σ : St), m + c = 61 → c ≤ 60 → WfZ U x → NtT x.1 → RbR q ρ ρ2 → CTe σ U x.1 → CRo σ q → (isOk x.1 = true → CNew σ q x.2) → CF (cRb q) σ0 σ →
    (∀ ρ' σ' c', RbR q ρ ρ' → CTe σ' U (bcR U m c x).1.1 → CRo σ' q → (isOk (bcR U m c x).1.1 = true → CNew σ' q (bcR U m c x).1.2 ∧ c' = (bcR U m c x).2) → CF (cRb q) σ0 σ' → Ev l X (d + 43) 79 76 [.ref 317, .ref q, .int (nI c')] [] 402 402 402 ρ' σ' Q) →
    Ev l X (d + 43) 79 14 [.ref 317, .ref q, .int (nI c)] [] 402 402 402 ρ2 σ Q := by
  have h16 := hT.1
  intro m
  induction m with
  | zero => intro c x ρ2 σ h1 h2; omega
  | succ m ih =>
    intro c x ρ2 σ hm hc hwf hnt hR hs hO hN hC hQ
    obtain ⟨s, B⟩ := x
    have ebc : bcR U (m + 1) c (s, B) = if lkC U s = none then ((lkS U s, B), c) else if c = 60 then ((flP 5 (rpos (lkS U s)) (lkS U s), B), c) else bcR U m (c + 1) (stS U (lkS U s, B)) := rfl
    rw [ebc] at hQ
    have hs : CTe σ U s := hs
    have hnt : NtT s := hnt
    have hρ := hR.1
    have hend := hs.end hT hnt
    cases hlc : lkC U s with
    | none =>
      rw [if_pos hlc] at hQ
      have hhe := hend.mpr hlc
      have hsl : CTe σ U (lkS U s) := by
        cases ho : isOk s with
        | false =>
          obtain ⟨e, rfl⟩ := not_inl ho
          exact hs
        | true =>
          obtain ⟨p, k1, -⟩ := nt_lk hnt hlc ho
          rw [k1]; exact hs.lk hT k1
      have fin : Ev l X (d + 43) 79 50 [.ref 317, .ref q, .int (nI c)] [] 402 402 402 ρ2 σ Q := by
        refine Ev_aload rfl rfl rfl ?_
        refine Ev_getR rfl (by first | rfl | assumption) (hρ _ _ _ rfl) ?_
        refine Ev_getI rfl (by first | rfl | assumption) ?_
        refine Ev_norm hhe ?_
        refine Ev_const rfl ?_
        refine Ev_icmp_eq rfl (fun h58 => ?_) (fun h58 => absurd rfl h58)
        exact hQ _ σ c hR hsl hO (fun z => ⟨hN (lk_rp U s z).1, rfl⟩) hC
      refine Ev_iload rfl rfl ?_
      refine Ev_const rfl ?_
      refine Ev_icmp_ge rfl (fun h17 => ?_) (fun h17 => ?_)
      · exact fin
      · refine Ev_aload rfl rfl rfl ?_
        refine Ev_getR rfl (by first | rfl | assumption) (hρ _ _ _ rfl) ?_
        refine Ev_getI rfl (by first | rfl | assumption) ?_
        refine Ev_norm hhe ?_
        refine Ev_const rfl ?_
        refine Ev_icmp_eq rfl (fun h28 => ?_) (fun h28 => absurd rfl h28)
        exact fin
    | some ch =>
      rw [if_neg (by rw [hlc]; intro z; cases z)] at hQ
      have hhe : ¬ σ.1 316 2 = -1 := fun z => by rw [hend.mp z] at hlc; cases hlc
      obtain ⟨a, tc, l1, l2, l3, l4, -⟩ := lk_some hlc
      have hwl : WfZ U (lkS U s, B) := wf_lk hwf
      have hoks : isOk s = true := (lk_rp U s (by rw [l1]; rfl)).1
      have hN1 : CNew σ q B := hN hoks
      have s26 : CTe σ U (.inr (a, tc)) := hs.lk hT l1
      rw [l1] at hQ hwl
      obtain ⟨hI, hBB⟩ := hwl
      obtain ⟨hB1, hB2⟩ := hBB rfl
      have hself : lkS U (.inr (a, tc)) = .inr (a, tc) := by rw [← l1, lkS_i]
      have hfr : σ.1 316 3 = nI a := hs.t.fr hT l1
      by_cases h60 : c = 60
      · rw [if_pos h60] at hQ
        refine Ev_iload rfl rfl ?_
        refine Ev_const rfl ?_
        refine Ev_icmp_ge rfl (fun h17 => ?_) (fun h17 => absurd (show (60 : Int32) ≤ nI c by rw [h60]; decide) h17)
        refine Ev_aload rfl rfl rfl ?_
        refine Ev_getR rfl (by first | rfl | assumption) (hρ _ _ _ rfl) ?_
        refine Ev_getI rfl (by first | rfl | assumption) ?_
        refine Ev_const rfl ?_
        refine Ev_icmp_eq rfl (fun h58 => absurd h58 hhe) (fun h58 => ?_)
        refine Ev_aload rfl rfl rfl ?_
        refine Ev_getR rfl (by first | rfl | assumption) (hρ _ _ _ rfl) ?_
        refine Ev_const rfl ?_
        refine Ev_aload rfl rfl rfl ?_
        refine Ev_getR rfl (by first | rfl | assumption) (hρ _ _ _ rfl) ?_
        refine Ev_getI rfl (by first | rfl | assumption) ?_
        refine Ev_norm hfr ?_
        refine Ev_callV rfl rfl rfl rfl rfl (same_n 402) (t_fail _ (w := 5) (k := a) s26 (by decide) (fun _ _ => rfl)) ?_
        rintro v73 ρ73 σ73 ⟨rfl, e73, s73, c73⟩
        obtain rfl := e73.symm
        exact hQ _ σ73 c hR s73 (hO.tt hq c73) (fun z => by cases z) (hC.tr (cTt_b c73))
      · rw [if_neg h60] at hQ
        refine Ev_iload rfl rfl ?_
        refine Ev_const rfl ?_
        refine Ev_icmp_ge rfl (fun h17 => absurd h17 (nI_ge (b := 60) (by omega) (by decide))) (fun h17 => ?_)
        refine Ev_aload rfl rfl rfl ?_
        refine Ev_getR rfl (by first | rfl | assumption) (hρ _ _ _ rfl) ?_
        refine Ev_getI rfl (by first | rfl | assumption) ?_
        refine Ev_const rfl ?_
        refine Ev_icmp_eq rfl (fun h28 => absurd h28 hhe) (fun h28 => ?_)
        refine Ev_aload rfl rfl rfl ?_
        refine Ev_callV rfl rfl rfl rfl rfl (same_n 402) (t_readStatement _ (p := (a, tc)) hq hρ hR.2.1 hT hB1 hB2 hI hself hN1 s26) ?_
        rintro v32 ρ32 σ32 ⟨rfl, r32, s32, o32, n32, c32⟩
        refine Ev_aload rfl rfl rfl ?_
        refine Ev_getR rfl (by first | rfl | assumption) (r32.1 _ _ _ rfl : _ = some 316) ?_
        refine Ev_const rfl ?_
        refine Ev_callV rfl rfl rfl rfl rfl (same_n 402) (t_expS _ (c := 59) r32.1 hT (by decide) s32) ?_
        rintro v41 ρ41 σ41 ⟨rfl, e41, s41, c41⟩
        obtain rfl := e41.symm
        refine Ev_iincE rfl rfl (nI_1 c) ?_
        refine Ev_goto rfl ?_
        refine ih (c + 1) (stS U (.inr (a, tc), B)) ρ32 σ41 (by omega) (by omega) (wf_stS hT ⟨hI, hBB⟩) (nt_aS _ _) ⟨r32.1, by rw [r32.2 _ _ (by decide)]; exact hR.2.1, fun k j h1 h2 => by rw [r32.2 k j h2]; exact hR.2.2 k j h1 h2⟩ s41 (o32.tt hq c41) (fun z => (n32 (aS_ok z).1).tt hq c41) ((hC.tr c32).tr (cTt_b c41)) hQ
theorem t_readBeach (d : Nat) {σ : St} (hq : q = 2 ∨ q = 17) (hρ : RF ρ) (hT : TxW U) (H : CTe σ U (.inr (0, 0))) :
    T l X (d + 43) 79 [.ref 317, .ref q] 402 402 ρ σ (fun v ρ' σ' => (∃ c, v = some (.int (nI c)) ∧ (isOk (bcR U 61 0 (.inr (0, 0), B00)).1.1 = true → c = (bcR U 61 0 (.inr (0, 0), B00)).2)) ∧ (RF ρ' ∧ ∀ k j, k ≠ 317 → k ≠ 318 → ρ' k j = ρ k j) ∧ CTe σ' U (bcR U 61 0 (.inr (0, 0), B00)).1.1 ∧ (isOk (bcR U 61 0 (.inr (0, 0), B00)).1.1 = true → CFn σ' q (bcR U 61 0 (.inr (0, 0), B00)).1.2 (ni (bcR U 61 0 (.inr (0, 0), B00)).1.2) ∧ CFi σ' q (bcR U 61 0 (.inr (0, 0), B00)).1.2 4 (szU (bcR U 61 0 (.inr (0, 0), B00)).1.2 4)) ∧ CF (cRb q) σ σ') := by
  have h16 := hT.1
  obtain ⟨⟨wI, wB⟩, -⟩ := wf_bcR hT 61 0 (.inr (0, 0), B00) rfl (wf_0 U)
  have hρ1 := rf_317 hρ q
  have bO := (bo hq hρ1).1
  refine T_of rfl ?_
  refine Ev_aload rfl rfl rfl ?_
  refine Ev_aload rfl rfl rfl ?_
  refine Ev_putR rfl (by first | rfl | assumption) (fun _ => ⟨rfl, rfl⟩) (Or.inl rfl) ?_
  refine Ev_aload rfl rfl rfl ?_
  refine Ev_getR rfl (by first | rfl | assumption) (rf_317b q) ?_
  refine Ev_callV rfl rfl rfl bO rfl (same_n 402) (t_clearB _ hq hρ1) ?_
  rintro v9 ρ9 σ9 ⟨rfl, e9, n9, c9⟩
  obtain rfl := e9.symm
  refine Ev_const rfl ?_
  refine Ev_istore rfl ?_
  refine t_rbLoop d (ρ := ρ) (σ0 := σ) hq hT 61 0 (.inr (0, 0), B00) _ σ9 rfl (by decide) (wf_0 U) (fun a tc z => (congrArg Prod.snd (Sum.inr.inj z)).symm) ⟨hρ1, rf_317b q, fun k j h1 _ => rf_317n q h1⟩ (H.bq hq c9) (n9.rb (Nat.zero_le _) (Nat.zero_le _) (Nat.zero_le _) (Nat.zero_le _)) (fun _ => n9) (cB_b c9) (fun ρ2 σ2 c' r2 s2 o2 n2 c2 => ?_)
  generalize bcR U 61 0 (.inr (0, 0), B00) = y at *
  have bO2 := (bo hq r2.1).1
  have hle : isOk y.1.1 = true → CNew σ2 q y.1.2 ∧ WfB y.1.2 ∧ flen y.1.2 ≤ 1600 := fun z => ⟨(n2 z).1, (wB z).1, by have := (wB z).2; have := rpos_le wI z; omega⟩
  refine Ev_aload rfl rfl rfl ?_
  refine Ev_getR rfl (by first | rfl | assumption) r2.2.1 ?_
  refine Ev_callV rfl rfl rfl bO2 rfl (same_n 402) (t_finish _ (s := y.1.1) hq r2.1 o2 hle) ?_
  rintro v80 ρ80 σ80 ⟨rfl, e80, f80, c80⟩
  obtain rfl := e80.symm
  refine Ev_iload rfl rfl ?_
  exact Ev_ireturn rfl rfl rfl rfl ⟨⟨c', rfl, fun z => (n2 z).2⟩, ⟨r2.1, r2.2.2⟩, s2.bq hq c80, f80, c2.tr (cB_b c80)⟩
end S88zzg
