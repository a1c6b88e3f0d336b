/-! A beach read by the class: finished, read whole. -/
theorem rf_317 {ρ : Rf} (hρ : RF ρ) (q : Nat) : RF (sR ρ 317 (va_up (ρ 317) 2 (some q))) := by
  intro k j x h
  by_cases hk : k = 317
  · subst hk
    by_cases hj : j = 2
    · subst hj; cases h
    · have e : sR ρ 317 (va_up (ρ 317) 2 (some q)) 317 j = ρ 317 j := by simp [sR, va_up, hj]
      rw [e]; exact hρ _ _ _ h
  · have e : sR ρ 317 (va_up (ρ 317) 2 (some q)) k j = ρ k j := by simp [sR, hk]
    rw [e]; exact hρ _ _ _ h
theorem rf_317b {ρ : Rf} (q : Nat) : sR ρ 317 (va_up (ρ 317) 2 (some q)) 317 2 = some q := by simp [sR, va_up]
theorem rf_317n {ρ : Rf} (q : Nat) {k j : Nat} (h : k ≠ 317) : sR ρ 317 (va_up (ρ 317) 2 (some q)) k j = ρ k j := by simp [sR, h]
theorem cor_0 {σ : St} {q n : Nat} (hn : n ≤ 1620) (h : σ.1 (q + 10) 2 = nI n) : COr σ (q + 10) n [] := by
  refine ⟨hn, ?_, fun j hj => absurd hj (Nat.not_lt_zero j)⟩
  rw [h]
  show nI n = nI (if n + 0 < 1620 then n + 0 else 1620)
  by_cases hz : n + 0 < 1620
  · rw [if_pos hz]; rfl
  · rw [if_neg hz, show n = 1620 by omega]
theorem cor_b {q bs : Nat} {σ σ' : St} (h : CF (cOr (q + 10) bs) σ σ') : CF (fun k _ => cBq q k) σ σ' := h.wk (fun k j z => by
  have := cBq_f z
  exact cOr_f (by omega) (by omega))
theorem cor_r {q bs : Nat} {σ σ' : St} (h : CF (cOr (q + 10) bs) σ σ') {r : Nat} (h1 : r ≠ 10) (h2 : r ≠ 11) : σ'.1 (q + r) = σ.1 (q + r) := funext fun j => h.1 _ _ (cOr_f (by omega) (by omega))
theorem cor_c {q bs j : Nat} {σ σ' : St} (h : CF (cOr (q + 10) bs) σ σ') (hj : j < bs) : σ'.1 (q + 11) j = σ.1 (q + 11) j := h.1 _ _ (by
  unfold cOr
  have : Nat.ble bs j = false := by
    cases hz : Nat.ble bs j with
    | false => rfl
    | true => have := Nat.ble_eq.mp hz; omega
  rw [nbeq (show q + 11 ≠ q + 10 by omega), this, Bool.and_false]; rfl)
section S88zzg
variable {l : Launch} {X : Cx} {ρ : Rf} {U : Tx} {q : Nat} {B : Bh}
theorem t_finR (d : Nat) {σ0 : St} (hq : q = 2 ∨ q = 17) (hρ : RF ρ) (L2 : Value) {Q : Po} (hQ : ∀ σ' L L2, CF (fun k _ => cBq q k) σ0 σ' → Ev l X (d + 3) 9 123 [.ref q, L, L2] [] 400 400 400 ρ σ' Q) :
    ∀ (m k : Nat) (σ : St), k + m = 4 → (∃ n, n ≤ 1620 ∧ σ.1 (q + 10) 2 = nI n) → CF (fun k _ => cBq q k) σ0 σ → Ev l X (d + 3) 9 71 [.ref q, .int (nI k), L2] [] 400 400 400 ρ σ Q := by
  obtain ⟨bO, -, -, -, ⟨⟨a13, s13, r13⟩, ⟨a14, s14, r14⟩⟩, ro, io⟩ := bo hq hρ
  intro m
  induction m with
  | zero =>
    intro k σ hm hn hc
    obtain rfl : k = 4 := by omega
    refine Ev_iload rfl rfl ?_
    refine Ev_const rfl ?_
    refine Ev_icmp_ge rfl (fun h73 => ?_) (fun h73 => absurd (nI_le (a := 4) (b := 4) (by omega) (by omega)) h73)
    exact hQ σ _ _ hc
  | succ m ih =>
    intro k σ hm hn hc
    obtain ⟨n, hn1, hn2⟩ := hn
    refine Ev_iload rfl rfl ?_
    refine Ev_const rfl ?_
    refine Ev_icmp_ge rfl (fun h73 => absurd h73 (nI_ge (b := 4) (by omega) (by omega))) (fun h73 => ?_)
    refine Ev_aload rfl rfl rfl ?_
    refine Ev_getR rfl (by first | rfl | assumption) (by first | exact hρ rfl | assumption) ?_
    refine Ev_iload rfl rfl ?_
    refine Ev_iald rfl (by first | rfl | assumption) (by rw [s13]; exact vp_in_nI (n := k) (show k < 4 by omega) (by decide)) ?_
    refine Ev_const rfl ?_
    refine Ev_icmp_ne rfl (fun h83 => ?_) (fun h83 => ?_)
    · refine Ev_iincE rfl rfl (nI_1 k) ?_
      refine Ev_goto rfl ?_
      exact ih (k + 1) σ (by omega) ⟨n, hn1, hn2⟩ hc
    · refine Ev_aload rfl rfl rfl ?_
      refine Ev_getR rfl (by first | rfl | assumption) (by first | exact hρ rfl | assumption) ?_
      refine Ev_iload rfl rfl ?_
      refine Ev_aload rfl rfl rfl ?_
      refine Ev_getR rfl (by first | rfl | assumption) (by first | exact hρ rfl | assumption) ?_
      refine Ev_getI rfl (by first | rfl | assumption) ?_
      refine Ev_norm hn2 ?_
      refine Ev_iast rfl (by first | rfl | assumption) (by rw [s13]; exact vp_in_nI (n := k) (show k < 4 by omega) (by decide)) ?_
      refine Ev_aload rfl rfl rfl ?_
      refine Ev_iload rfl rfl ?_
      refine Ev_callV rfl rfl rfl bO rfl (same_n 400) (t_addUntold _ hq hρ (by omega) (cor_0 hn1 (by rw [sR_1 _ _ (by omega)]; exact hn2))) ?_
      rintro v101 ρ101 σ101 ⟨rfl, e101, o101, c101⟩
      obtain rfl := e101.symm
      refine Ev_aload rfl rfl rfl ?_
      refine Ev_getR rfl (by first | rfl | assumption) (by first | exact hρ rfl | assumption) ?_
      refine Ev_iload rfl rfl ?_
      refine Ev_aload rfl rfl rfl ?_
      refine Ev_getR rfl (by first | rfl | assumption) (by first | exact hρ rfl | assumption) ?_
      refine Ev_getI rfl (by first | rfl | assumption) ?_
      refine Ev_iast rfl (by first | rfl | assumption) (by rw [s14]; exact vp_in_nI (n := k) (show k < 4 by omega) (by decide)) ?_
      refine Ev_iincE rfl rfl (nI_1 k) ?_
      refine Ev_goto rfl ?_
      refine ih (k + 1) _ (by omega) ⟨_, ?_, by rw [sR_1 _ _ (by omega)]; exact o101.2.1⟩ (((hc.tr (cf_cell _ (by decide))).tr (cor_b c101)).tr (cf_cell _ (by decide)))
      split <;> omega
theorem t_finX (d : Nat) {σ0 : St} (hq : q = 2 ∨ q = 17) (hρ : RF ρ) (hf : flen B ≤ 1600) (L2 : Value) {Q : Po} (hQ : ∀ σ' L L2, CFn σ' q B (ni B) → CFi σ' q B 4 (szU B 4) → CF (fun k _ => cBq q k) σ0 σ' → Ev l X (d + 3) 9 123 [.ref q, L, L2] [] 400 400 400 ρ σ' Q) :
    ∀ (m k : Nat) (σ : St), k + m = 4 → σ.1 (q + 10) 2 = nI (szU B k) → CFn σ q B (ni B) → CFi σ q B k (szU B k) → CF (fun k _ => cBq q k) σ0 σ → Ev l X (d + 3) 9 71 [.ref q, .int (nI k), L2] [] 400 400 400 ρ σ Q := by
  obtain ⟨bO, -, -, -, ⟨⟨a13, s13, r13⟩, ⟨a14, s14, r14⟩⟩, ro, io⟩ := bo hq hρ
  intro m
  induction m with
  | zero =>
    intro k σ hm hs hN hF hc
    obtain rfl : k = 4 := by omega
    refine Ev_iload rfl rfl ?_
    refine Ev_const rfl ?_
    refine Ev_icmp_ge rfl (fun h73 => ?_) (fun h73 => absurd (nI_le (a := 4) (b := 4) (by omega) (by omega)) h73)
    exact hQ σ _ _ hN hF hc
  | succ m ih =>
    intro k σ hm hs hN hF hc
    have hk : k < 4 := by omega
    have hsz := szU_up B k (by omega)
    have hsz1 := szU_up B (k + 1) (by omega)
    have hst : szU B (k + 1) = szU B k + unL B k := rfl
    have g := hF k hk
    cases hfr : frm B k with
    | some cs =>
      have hu : unL B k = 0 := by unfold unL; rw [hfr]
      rw [if_pos (Or.inr (by rw [hfr]; intro z; cases z))] at g
      obtain ⟨a, b, g1, g2, g3, g4, g5⟩ := g
      refine Ev_iload rfl rfl ?_
      refine Ev_const rfl ?_
      refine Ev_icmp_ge rfl (fun h73 => absurd h73 (nI_ge (b := 4) (by omega) (by omega))) (fun h73 => ?_)
      refine Ev_aload rfl rfl rfl ?_
      refine Ev_getR rfl (by first | rfl | assumption) (by first | exact hρ rfl | assumption) ?_
      refine Ev_iload rfl rfl ?_
      refine Ev_iald rfl (by first | rfl | assumption) (by rw [s13]; exact vp_in_nI (n := k) (show k < 4 by omega) (by decide)) ?_
      refine Ev_norm (by rw [nI_clamp (by omega)]; exact g1 : _ = nI a) ?_
      refine Ev_const rfl ?_
      refine Ev_icmp_ne rfl (fun h83 => ?_) (fun h83 => absurd (nI_m1 (by omega)) h83)
      refine Ev_iincE rfl rfl (nI_1 k) ?_
      refine Ev_goto rfl ?_
      refine ih (k + 1) σ (by omega) (by rw [hst, hu]; exact hs) hN (fun j hj => ?_) hc
      rw [hst, hu, Nat.add_zero]
      by_cases hz : j = k
      · subst hz
        rw [if_pos (Or.inl (by omega))]
        exact ⟨a, b, g1, g2, g3, g4, g5⟩
      · have g' := hF j hj
        by_cases hc2 : j < k ∨ frm B j ≠ none
        · rw [if_pos hc2] at g'
          rw [if_pos (hc2.elim (fun z => Or.inl (by omega)) Or.inr)]
          exact g'
        · rw [if_neg hc2] at g'
          rw [if_neg (fun z => hc2 (z.elim (fun z => Or.inl (by omega)) Or.inr))]
          exact g'
    | none =>
      have hu : unL B k = (unt k).length := by unfold unL; rw [hfr]
      have ecod : cod B k = unt k := by unfold cod; rw [hfr]
      rw [if_neg (fun z => z.elim (fun z => by omega) (fun z => z hfr))] at g
      refine Ev_iload rfl rfl ?_
      refine Ev_const rfl ?_
      refine Ev_icmp_ge rfl (fun h73 => absurd h73 (nI_ge (b := 4) (by omega) (by omega))) (fun h73 => ?_)
      refine Ev_aload rfl rfl rfl ?_
      refine Ev_getR rfl (by first | rfl | assumption) (by first | exact hρ rfl | assumption) ?_
      refine Ev_iload rfl rfl ?_
      refine Ev_iald rfl (by first | rfl | assumption) (by rw [s13]; exact vp_in_nI (n := k) (show k < 4 by omega) (by decide)) ?_
      refine Ev_norm (by rw [nI_clamp (by omega)]; exact g : _ = (-1 : Int32)) ?_
      refine Ev_const rfl ?_
      refine Ev_icmp_ne rfl (fun h83 => absurd rfl h83) (fun h83 => ?_)
      refine Ev_aload rfl rfl rfl ?_
      refine Ev_getR rfl (by first | rfl | assumption) (by first | exact hρ rfl | assumption) ?_
      refine Ev_iload rfl rfl ?_
      refine Ev_aload rfl rfl rfl ?_
      refine Ev_getR rfl (by first | rfl | assumption) (by first | exact hρ rfl | assumption) ?_
      refine Ev_getI rfl (by first | rfl | assumption) ?_
      refine Ev_norm hs ?_
      refine Ev_iast rfl (by first | rfl | assumption) (by rw [s13]; exact vp_in_nI (n := k) (show k < 4 by omega) (by decide)) ?_
      rw [nI_clamp (show k < 2 ^ 31 by omega)]
      refine Ev_aload rfl rfl rfl ?_
      refine Ev_iload rfl rfl ?_
      refine Ev_callV rfl rfl rfl bO rfl (same_n 400) (t_addUntold _ (bs := szU B k) hq hρ (by omega) (cor_0 (by omega) (by rw [sR_1 _ _ (by omega)]; exact hs))) ?_
      rintro v101 ρ101 σ101 ⟨rfl, e101, o101, c101⟩
      obtain rfl := e101.symm
      refine Ev_aload rfl rfl rfl ?_
      refine Ev_getR rfl (by first | rfl | assumption) (by first | exact hρ rfl | assumption) ?_
      refine Ev_iload rfl rfl ?_
      refine Ev_aload rfl rfl rfl ?_
      refine Ev_getR rfl (by first | rfl | assumption) (by first | exact hρ rfl | assumption) ?_
      refine Ev_getI rfl (by first | rfl | assumption) ?_
      refine Ev_norm (by have := o101.2.1; rw [if_pos (show szU B k + (unt k).length < 1620 by omega)] at this; exact this : _ = nI (szU B k + (unt k).length)) ?_
      refine Ev_iast rfl (by first | rfl | assumption) (by rw [s14]; exact vp_in_nI (n := k) (show k < 4 by omega) (by decide)) ?_
      refine Ev_iincE rfl rfl (nI_1 k) ?_
      refine Ev_goto rfl ?_
      rw [nI_clamp (show k < 2 ^ 31 by omega)]
      have e1 : ∀ r, r ≠ 13 → (sI σ (q + 13) (upd (σ.1 (q + 13)) k (nI (szU B k)))).1 (q + r) = σ.1 (q + r) := fun r hr => sR_1 _ _ (by omega)
      have e2 : ∀ {r : Nat}, r ≠ 10 → r ≠ 11 → σ101.1 (q + r) = (sI σ (q + 13) (upd (σ.1 (q + 13)) k (nI (szU B k)))).1 (q + r) := fun h1 h2 => cor_r c101 h1 h2
      have e3 : ∀ r, r ≠ 14 → (sI σ101 (q + 14) (upd (σ101.1 (q + 14)) k (nI (szU B k + (unt k).length)))).1 (q + r) = σ101.1 (q + r) := fun r hr => sR_1 _ _ (by omega)
      refine ih (k + 1) _ (by omega) ?_ (hN.eq (fun r hr => ?_)) (fun j hj => ?_) (((hc.tr (cf_cell _ (by decide))).tr (cor_b c101)).tr (cf_cell _ (by decide)))
      · have := o101.2.1
        rw [if_pos (show szU B k + (unt k).length < 1620 by omega)] at this
        rw [e3 10 (by decide), this, hst, hu]
      · rw [e3 r (by omega), e2 (by omega) (by omega), e1 r (by omega)]
      · have e13 : (sI σ101 (q + 14) (upd (σ101.1 (q + 14)) k (nI (szU B k + (unt k).length)))).1 (q + 13) = upd (σ.1 (q + 13)) k (nI (szU B k)) := by rw [e3 13 (by decide), e2 (by decide) (by decide), sR_0]
        have e14 : (sI σ101 (q + 14) (upd (σ101.1 (q + 14)) k (nI (szU B k + (unt k).length)))).1 (q + 14) = upd (σ.1 (q + 14)) k (nI (szU B k + (unt k).length)) := by rw [sR_0, e2 (by decide) (by decide), e1 14 (by decide)]
        have e11 : (sI σ101 (q + 14) (upd (σ101.1 (q + 14)) k (nI (szU B k + (unt k).length)))).1 (q + 11) = σ101.1 (q + 11) := e3 11 (by decide)
        rw [e13, e14, e11, hst, hu]
        by_cases hz : j = k
        · subst hz
          rw [if_pos (Or.inl (by omega)), ecod]
          exact ⟨szU B j, szU B j + (unt j).length, pk_us, pk_us, rfl, Nat.le_refl _, fun i hi => o101.2.2 i hi (by omega)⟩
        · have g' := hF j hj
          rw [pk_un hz, pk_un hz]
          by_cases hc2 : j < k ∨ frm B j ≠ none
          · rw [if_pos hc2] at g'
            rw [if_pos (hc2.elim (fun z => Or.inl (by omega)) Or.inr)]
            obtain ⟨a, b, k1, k2, k3, k4, k5⟩ := g'
            exact ⟨a, b, k1, k2, k3, by omega, fun i hi => by rw [cor_c c101 (by omega), sR_1 _ _ (by omega)]; exact k5 i hi⟩
          · rw [if_neg hc2] at g'
            rw [if_neg (fun z => hc2 (z.elim (fun z => Or.inl (by omega)) Or.inr))]
            exact g'
theorem t_finish (d : Nat) {σ : St} {s : Rdg} (hq : q = 2 ∨ q = 17) (hρ : RF ρ) (H : CRo σ q) (HN : isOk s = true → CNew σ q B ∧ WfB B ∧ flen B ≤ 1600) :
    T l X (d + 3) 9 [.ref q] 400 400 ρ σ (fun v ρ' σ' => v = none ∧ ρ' = ρ ∧ (isOk s = true → CFn σ' q B (ni B) ∧ CFi σ' q B 4 (szU B 4)) ∧ CF (fun k _ => cBq q k) σ σ') := by
  refine T_of rfl ?_
  cases ho : isOk s with
  | false =>
    obtain ⟨⟨n, n1, n2⟩, -, -, ⟨z, z1, z2⟩⟩ := H
    refine Ev_const rfl ?_
    refine Ev_istore rfl ?_
    refine t_rootsR (d + 3) hq hρ n1 (fun σ1 L L2 h1 c1 => ?_) n 0 σ _ (Nat.zero_add _) n2 (fun _ _ _ => rfl) (CF.rf _ _)
    refine Ev_const rfl ?_
    refine Ev_istore rfl ?_
    refine t_finR d hq hρ _ (fun σ2 L3 L4 c2 => ?_) 4 0 σ1 rfl ⟨z, z1, by rw [h1 10 (by decide) (by decide)]; exact z2⟩ (CF.rf _ _)
    exact Ev_return rfl rfl rfl ⟨rfl, rfl, (fun z => by cases z), c1.tr c2⟩
  | true =>
    obtain ⟨HC, hB, hf⟩ := HN ho
    obtain ⟨g1, gi, gb, gp, gf, gs⟩ := HC
    refine Ev_const rfl ?_
    refine Ev_istore rfl ?_
    refine t_rootsX (d + 3) hq hρ hB (fun σ1 L L2 h0 h1 c1 => ?_) (ni B) 0 σ _ (Nat.zero_add _) ⟨g1, gi, gb, gp, fun i hi => absurd hi (Nat.not_lt_zero i)⟩ (fun _ _ _ => rfl) (CF.rf _ _)
    have hF : CFi σ1 q B 0 (flen B) := by
      have := gf.fi
      unfold CFi at this ⊢
      rw [h1 13 (by decide) (by decide), h1 14 (by decide) (by decide), h1 11 (by decide) (by decide)]
      exact this
    refine Ev_const rfl ?_
    refine Ev_istore rfl ?_
    refine t_finX d hq hρ hf _ (fun σ2 L3 L4 n2 f2 c2 => ?_) 4 0 σ1 rfl (by rw [h1 10 (by decide) (by decide)]; exact gs) h0 hF (CF.rf _ _)
    exact Ev_return rfl rfl rfl ⟨rfl, rfl, fun _ => ⟨n2, f2⟩, c1.tr c2⟩
/-- references as reading a beach needs them -/
def RbR (q : Nat) (ρ ρ2 : Rf) : Prop := RF ρ2 ∧ ρ2 317 2 = some q ∧ ∀ k j, k ≠ 317 → k ≠ 318 → ρ2 k j = ρ k j
theorem t_rbLoop (d : Nat) {σ0 : St} (hq : q = 2 ∨ q = 17) (hT : TxW U) {Q : Po} : ∀ (m c : Nat) (x : Rdg × Bh) (ρ2 : Rf) (σ : St), m + c = 61 → c ≤ 60 → WfZ U x → RbR q ρ ρ2 → CTt σ U x.1 → CRo σ q → (isOk x.1 = true → CNew σ q x.2) → CF (cRb q) σ0 σ →
    (∀ ρ' σ' c' L, RbR q ρ ρ' → CTt σ' U (bcR U m c x).1.1 → CRo σ' q → (isOk (bcR U m c x).1.1 = true → CNew σ' q (bcR U m c x).1.2 ∧ c' = (bcR U m c x).2) → CF (cRb q) σ0 σ' → Ev l X (d + 43) 79 79 [.ref 317, .ref q, .int (nI c'), L] [] 400 400 400 ρ' σ' Q) →
    Ev l X (d + 43) 79 16 [.ref 317, .ref q, .int (nI c), .int (nI c)] [] 400 400 400 ρ2 σ Q := by
  have h16 := hT.1
  intro m
  induction m with
  | zero => intro c x ρ2 σ h1 h2; omega
  | succ m ih =>
    intro c x ρ2 σ hm hc hwf hR hs hO hN hC hQ
    obtain ⟨s, B⟩ := x
    have ebc : bcR U (m + 1) c (s, B) = if lkC U s = none then ((lkS U s, B), c) else if c = 60 then ((flP 5 (rpos (lkS U s)) (lkS U s), B), c) else bcR U m (c + 1) (stS U (lkS U s, B)) := rfl
    rw [ebc] at hQ
    have hs : CTt σ U s := hs
    have hρ := hR.1
    have hev := lkV_m1 (lkC_256 (s := s) hT)
    cases hlc : lkC U s with
    | none =>
      rw [if_pos hlc] at hQ
      refine Ev_iload rfl rfl ?_
      refine Ev_const rfl ?_
      refine Ev_icmp_gt rfl (fun h19 => absurd h19 (nI_nlt (a := 60) (b := c) (by omega) (by omega))) (fun h19 => ?_)
      refine Ev_aload rfl rfl rfl ?_
      refine Ev_getR rfl (by first | rfl | assumption) (hρ _ _ _ rfl) ?_
      refine Ev_callV rfl rfl rfl rfl rfl (same_n 400) (t_look _ hρ hT hs) ?_
      rintro v26 ρ26 σ26 ⟨rfl, e26, s26, c26⟩
      obtain rfl := e26.symm
      refine Ev_const rfl ?_
      refine Ev_icmp_eq rfl (fun h30 => ?_) (fun h30 => absurd (hev.mpr hlc) h30)
      refine hQ _ σ26 c _ hR s26 (hO.tt hq c26) (fun z => ⟨(hN (lk_rp U s z).1).tt hq c26, rfl⟩) (hC.tr (cTt_b c26))
    | some ch =>
      rw [if_neg (by rw [hlc]; intro z; cases z)] at hQ
      obtain ⟨a, tc, l1, l2, l3, l4, -⟩ := lk_some hlc
      have hwl : WfZ U (lkS U s, B) := wf_lk hwf
      have hoks : isOk s = true := (lk_rp U s (by rw [l1]; rfl)).1
      have hN1 : CNew σ q B := hN hoks
      rw [l1] at hQ hwl
      obtain ⟨hI, hBB⟩ := hwl
      obtain ⟨hB1, hB2⟩ := hBB rfl
      have hself : lkS U (.inr (a, tc)) = .inr (a, tc) := by rw [← l1, lkS_i]
      by_cases h60 : c = 60
      · rw [if_pos h60] at hQ
        refine Ev_iload rfl rfl ?_
        refine Ev_const rfl ?_
        refine Ev_icmp_gt rfl (fun h19 => absurd h19 (nI_nlt (a := 60) (b := c) (by omega) (by omega))) (fun h19 => ?_)
        refine Ev_aload rfl rfl rfl ?_
        refine Ev_getR rfl (by first | rfl | assumption) (hρ _ _ _ rfl) ?_
        refine Ev_callV rfl rfl rfl rfl rfl (same_n 400) (t_look _ hρ hT hs) ?_
        rintro v26 ρ26 σ26 ⟨rfl, e26, s26, c26⟩
        obtain rfl := e26.symm
        rw [l1] at s26
        refine Ev_const rfl ?_
        refine Ev_icmp_eq rfl (fun h30 => absurd (hev.mp h30) (by rw [hlc]; intro z; cases z)) (fun h30 => ?_)
        refine Ev_iload rfl rfl ?_
        refine Ev_const rfl ?_
        refine Ev_icmp_ne rfl (fun h36 => absurd (show nI c = 60 by rw [h60]; rfl) h36) (fun h36 => ?_)
        refine Ev_aload rfl rfl rfl ?_
        refine Ev_getR rfl (by first | rfl | assumption) (hρ _ _ _ rfl) ?_
        refine Ev_const rfl ?_
        refine Ev_aload rfl rfl rfl ?_
        refine Ev_getR rfl (by first | rfl | assumption) (hρ _ _ _ rfl) ?_
        refine Ev_getI rfl (by first | rfl | assumption) ?_
        refine Ev_norm (s26.2.2.2.2.1 : _ = nI a) ?_
        refine Ev_callV rfl rfl rfl rfl rfl (same_n 400) (t_fail _ (w := 5) (k := a) s26 (by decide) (fun _ _ => rfl)) ?_
        rintro v51 ρ51 σ51 ⟨rfl, e51, s51, c51⟩
        obtain rfl := e51.symm
        refine Ev_goto rfl ?_
        refine Ev_iincE rfl rfl (nI_1 c) ?_
        refine Ev_goto rfl ?_
        refine Ev_iload rfl rfl ?_
        refine Ev_const rfl ?_
        refine Ev_icmp_gt rfl (fun h19 => ?_) (fun h19 => absurd (show nI (c + 1) > 60 by rw [h60]; decide) h19)
        exact hQ _ σ51 c _ hR s51 ((hO.tt hq c26).tt hq c51) (fun z => by cases z) ((hC.tr (cTt_b c26)).tr (cTt_b c51))
      · rw [if_neg h60] at hQ
        refine Ev_iload rfl rfl ?_
        refine Ev_const rfl ?_
        refine Ev_icmp_gt rfl (fun h19 => absurd h19 (nI_nlt (a := 60) (b := c) (by omega) (by omega))) (fun h19 => ?_)
        refine Ev_aload rfl rfl rfl ?_
        refine Ev_getR rfl (by first | rfl | assumption) (hρ _ _ _ rfl) ?_
        refine Ev_callV rfl rfl rfl rfl rfl (same_n 400) (t_look _ hρ hT hs) ?_
        rintro v26 ρ26 σ26 ⟨rfl, e26, s26, c26⟩
        obtain rfl := e26.symm
        rw [l1] at s26
        refine Ev_const rfl ?_
        refine Ev_icmp_eq rfl (fun h30 => absurd (hev.mp h30) (by rw [hlc]; intro z; cases z)) (fun h30 => ?_)
        refine Ev_iload rfl rfl ?_
        refine Ev_const rfl ?_
        refine Ev_icmp_ne rfl (fun h36 => ?_) (fun h36 => absurd (fun z => h60 ((nI_eq (b := 60) (by omega) (by decide)).mp z)) h36)
        refine Ev_aload rfl rfl rfl ?_
        refine Ev_callV rfl rfl rfl rfl rfl (same_n 400) (t_readStatement _ (p := (a, tc)) hq hρ hR.2.1 hT hB1 hB2 hI hself (hN1.tt hq c26) s26) ?_
        rintro v58 ρ58 σ58 ⟨rfl, r58, s58, o58, n58, c58⟩
        refine Ev_aload rfl rfl rfl ?_
        refine Ev_getR rfl (by first | rfl | assumption) (r58.1 _ _ _ rfl : _ = some 316) ?_
        refine Ev_const rfl ?_
        refine Ev_callV rfl rfl rfl rfl rfl (same_n 400) (t_askSign _ (c := 59) r58.1 hT (by decide) s58) ?_
        rintro v67 ρ67 σ67 ⟨rfl, e67, s67, c67⟩
        obtain rfl := e67.symm
        refine Ev_iincE rfl rfl (nI_1 c) ?_
        refine Ev_iincE rfl rfl (nI_1 c) ?_
        refine Ev_goto rfl ?_
        refine ih (c + 1) (stS U (.inr (a, tc), B)) ρ58 σ67 (by omega) (by omega) (wf_stS hT ⟨hI, hBB⟩) ⟨r58.1, by rw [r58.2 _ _ (by decide)]; exact hR.2.1, fun k j h1 h2 => by rw [r58.2 k j h2]; exact hR.2.2 k j h1 h2⟩ s67 (o58.tt hq c67) (fun z => (n58 (aS_ok z).1).tt hq c67) (((hC.tr (cTt_b c26)).tr c58).tr (cTt_b c67)) hQ
theorem t_readBeach (d : Nat) {σ : St} (hq : q = 2 ∨ q = 17) (hρ : RF ρ) (hT : TxW U) (H : CTt σ U (.inr (0, 0))) :
    T l X (d + 43) 79 [.ref 317, .ref q] 400 400 ρ σ (fun v ρ' σ' => (∃ c, v = some (.int (nI c)) ∧ (isOk (bcR U 61 0 (.inr (0, 0), B00)).1.1 = true → c = (bcR U 61 0 (.inr (0, 0), B00)).2)) ∧ (RF ρ' ∧ ∀ k j, k ≠ 317 → k ≠ 318 → ρ' k j = ρ k j) ∧ CTt σ' U (bcR U 61 0 (.inr (0, 0), B00)).1.1 ∧ (isOk (bcR U 61 0 (.inr (0, 0), B00)).1.1 = true → CFn σ' q (bcR U 61 0 (.inr (0, 0), B00)).1.2 (ni (bcR U 61 0 (.inr (0, 0), B00)).1.2) ∧ CFi σ' q (bcR U 61 0 (.inr (0, 0), B00)).1.2 4 (szU (bcR U 61 0 (.inr (0, 0), B00)).1.2 4)) ∧ CF (cRb q) σ σ') := by
  have h16 := hT.1
  obtain ⟨⟨wI, wB⟩, -⟩ := wf_bcR hT 61 0 (.inr (0, 0), B00) rfl (wf_0 U)
  have hρ1 := rf_317 hρ q
  have bO := (bo hq hρ1).1
  refine T_of rfl ?_
  refine Ev_aload rfl rfl rfl ?_
  refine Ev_aload rfl rfl rfl ?_
  refine Ev_putR rfl (by first | rfl | assumption) (fun _ => ⟨rfl, rfl⟩) (Or.inl rfl) ?_
  refine Ev_aload rfl rfl rfl ?_
  refine Ev_getR rfl (by first | rfl | assumption) (rf_317b q) ?_
  refine Ev_callV rfl rfl rfl bO rfl (same_n 400) (t_clearB _ hq hρ1) ?_
  rintro v9 ρ9 σ9 ⟨rfl, e9, n9, c9⟩
  obtain rfl := e9.symm
  refine Ev_const rfl ?_
  refine Ev_istore rfl ?_
  refine Ev_const rfl ?_
  refine Ev_istore rfl ?_
  refine t_rbLoop d (ρ := ρ) (σ0 := σ) hq hT 61 0 (.inr (0, 0), B00) _ σ9 rfl (by decide) (wf_0 U) ⟨hρ1, rf_317b q, fun k j h1 _ => rf_317n q h1⟩ (H.bq hq c9) (n9.rb (Nat.zero_le _) (Nat.zero_le _) (Nat.zero_le _) (Nat.zero_le _)) (fun _ => n9) (cB_b c9) (fun ρ2 σ2 c' L r2 s2 o2 n2 c2 => ?_)
  generalize bcR U 61 0 (.inr (0, 0), B00) = y at *
  have bO2 := (bo hq r2.1).1
  have hle : isOk y.1.1 = true → CNew σ2 q y.1.2 ∧ WfB y.1.2 ∧ flen y.1.2 ≤ 1600 := fun z => ⟨(n2 z).1, (wB z).1, by have := (wB z).2; have := rpos_le wI z; omega⟩
  refine Ev_aload rfl rfl rfl ?_
  refine Ev_getR rfl (by first | rfl | assumption) r2.2.1 ?_
  refine Ev_callV rfl rfl rfl bO2 rfl (same_n 400) (t_finish _ (s := y.1.1) hq r2.1 o2 hle) ?_
  rintro v83 ρ83 σ83 ⟨rfl, e83, f83, c83⟩
  obtain rfl := e83.symm
  refine Ev_iload rfl rfl ?_
  exact Ev_ireturn rfl rfl rfl rfl ⟨⟨c', rfl, fun z => (n2 z).2⟩, ⟨r2.1, r2.2.2⟩, s2.bq hq c83, f83, c2.tr (cB_b c83)⟩
end S88zzg
