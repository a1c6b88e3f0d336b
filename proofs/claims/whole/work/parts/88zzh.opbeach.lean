/-! beach: the class's call, both sides. -/
theorem rf_0 {ρ : Rf} (hρ : RF ρ) {f : Nat} (hf : f = 2 ∨ f = 3) (q : Nat) : RF (sR ρ 0 (va_up (ρ 0) f (some q))) := by
  intro k j x h
  by_cases hk : k = 0
  · subst hk
    by_cases hj : j = f
    · subst hj
      rcases hf with rfl | rfl <;> cases h
    · have e : sR ρ 0 (va_up (ρ 0) f (some q)) 0 j = ρ 0 j := by simp [sR, va_up, hj]
      rw [e]; exact hρ _ _ _ h
  · have e : sR ρ 0 (va_up (ρ 0) f (some q)) k j = ρ k j := by simp [sR, hk]
    rw [e]; exact hρ _ _ _ h
theorem rf_0s {ρ : Rf} (f q : Nat) : sR ρ 0 (va_up (ρ 0) f (some q)) 0 f = some q := by simp [sR, va_up]
theorem rf_0n {ρ : Rf} {f j : Nat} (q : Nat) (h : j ≠ f) : sR ρ 0 (va_up (ρ 0) f (some q)) 0 j = ρ 0 j := by simp [sR, va_up, h]
theorem rf_0k {ρ : Rf} {f k : Nat} (q j : Nat) (h : k ≠ 0) : sR ρ 0 (va_up (ρ 0) f (some q)) k j = ρ k j := by simp [sR, h]
theorem rf_265 {ρ : Rf} (hρ : RF ρ) (q : Nat) : RF (sR ρ 265 (va_up (ρ 265) 1 (some q))) := by
  intro k j x h
  by_cases hk : k = 265
  · subst hk
    by_cases hj : j = 1
    · subst hj; cases h
    · have e : sR ρ 265 (va_up (ρ 265) 1 (some q)) 265 j = ρ 265 j := by simp [sR, va_up, hj]
      rw [e]; exact hρ _ _ _ h
  · have e : sR ρ 265 (va_up (ρ 265) 1 (some q)) k j = ρ k j := by simp [sR, hk]
    rw [e]; exact hρ _ _ _ h
theorem rf_265s {ρ : Rf} (q : Nat) : sR ρ 265 (va_up (ρ 265) 1 (some q)) 265 1 = some q := by simp [sR, va_up]
theorem rf_265k {ρ : Rf} {k : Nat} (q j : Nat) (h : k ≠ 265) : sR ρ 265 (va_up (ρ 265) 1 (some q)) k j = ρ k j := by simp [sR, h]
section S88zzh
variable {l : Launch} {X : Cx} {ρ : Rf} {U : Tx} {q : Nat} {B : Bh}
theorem sI_of {σ σ' : St} {k : Nat} (h1 : ∀ q, q ≠ k → σ'.1 q = σ.1 q) (h2 : σ'.2 = σ.2) : σ' = sI σ k (σ'.1 k) := by
  refine Prod.ext (funext fun q => ?_) h2
  rw [sI_1]
  by_cases hq : q = k
  · rw [if_pos hq, hq]
  · rw [if_neg hq]; exact h1 q hq
theorem t_open (d : Nat) {σ : St} {n : Nat} (hρ : RF ρ) (hT : TxW U) (hn : n = U.1) (hb : ∀ j, j < U.1 → σ.1 1 j = sb (U.2 j)) :
    T l X (d + 6) 92 [.ref 316, .int (nI n)] 402 402 ρ σ (fun v ρ' σ' => v = none ∧ ρ' = ρ ∧ CTe σ' U (.inr (0, 0)) ∧ ∃ f, σ' = sI σ 316 f) := by
  subst hn
  have h16 := hT.1
  have e0 : sI (sI (sI (sI σ 316 (upd (σ.1 316) 1 (nI U.1))) 316 (upd ((sI σ 316 (upd (σ.1 316) 1 (nI U.1))).1 316) 4 0)) 316 (upd ((sI (sI σ 316 (upd (σ.1 316) 1 (nI U.1))) 316 (upd ((sI σ 316 (upd (σ.1 316) 1 (nI U.1))).1 316) 4 0)).1 316) 6 0)) 316 (upd ((sI (sI (sI σ 316 (upd (σ.1 316) 1 (nI U.1))) 316 (upd ((sI σ 316 (upd (σ.1 316) 1 (nI U.1))).1 316) 4 0)) 316 (upd ((sI (sI σ 316 (upd (σ.1 316) 1 (nI U.1))) 316 (upd ((sI σ 316 (upd (σ.1 316) 1 (nI U.1))).1 316) 4 0)).1 316) 6 0)).1 316) 7 (-1)) = sI σ 316 (upd (upd (upd (upd (σ.1 316) 1 (nI U.1)) 4 0) 6 0) 7 (-1)) := by simp only [sI_sI, sR_0]
  refine T_of rfl ?_
  refine Ev_aload rfl rfl rfl ?_
  refine Ev_iload rfl rfl ?_
  refine Ev_aload rfl rfl rfl ?_
  refine Ev_getR rfl (by first | rfl | assumption) (hρ _ _ _ rfl) ?_
  refine Ev_alen rfl rfl ?_
  refine Ev_norm (rfl : _ = nI 1600) ?_
  refine Ev_callS rfl rfl rfl rfl (same_n 402) (t_min _ _ _) ?_
  rintro v7 ρ7 σ7 ⟨rfl, e7, g7⟩
  obtain rfl := e7.symm
  obtain rfl := g7.symm
  refine Ev_norm (show _ = nI U.1 by
  rw [if_neg (nI_nlt (a := 1600) (b := U.1) (by omega) (by decide))]) ?_
  refine Ev_putI rfl (by first | rfl | assumption) ⟨rfl, rfl⟩ rfl ?_
  refine Ev_aload rfl rfl rfl ?_
  refine Ev_const rfl ?_
  refine Ev_putI rfl (by first | rfl | assumption) ⟨rfl, rfl⟩ rfl ?_
  refine Ev_aload rfl rfl rfl ?_
  refine Ev_const rfl ?_
  refine Ev_putI rfl (by first | rfl | assumption) ⟨rfl, rfl⟩ rfl ?_
  refine Ev_aload rfl rfl rfl ?_
  refine Ev_const rfl ?_
  refine Ev_putI rfl (by first | rfl | assumption) ⟨rfl, rfl⟩ rfl ?_
  refine Ev_st rfl e0 ?_
  refine Ev_aload rfl rfl rfl ?_
  refine Ev_callV rfl rfl rfl rfl rfl (same_n 402) (t_next _ (U := U) (a := 0) (tc := 0) hρ hT ⟨by rw [sR_0, pk_un (by decide), pk_un (by decide), pk_un (by decide), pk_us], fun j hj => by rw [sR_1 _ _ (by decide)]; exact hb j hj⟩ (Nat.zero_le _) ⟨rfl, rfl⟩ (by rw [sR_0, pk_un (by decide), pk_un (by decide), pk_us]; rfl) (by rw [sR_0, pk_un (by decide), pk_us]) (by rw [sR_0, pk_us])) ?_
  rintro v29 ρ29 σ29 ⟨rfl, e29, s29, c29⟩
  obtain rfl := e29.symm
  exact Ev_return rfl rfl rfl ⟨rfl, rfl, s29, _, sI_of (fun k hk => by rw [show σ29.1 k = _ from funext fun j => c29.1 k j (cTt_f hk), sR_1 _ _ hk]) (by rw [c29.2]; rfl)⟩
/-- a moment begun on a beach -/
theorem t_begin (d : Nat) {σ : St} (hq : q = 2 ∨ q = 17) (hρ : RF ρ) (hB : WfB B) (H : CNum σ q B) (HP : CNp σ q B) :
    T l X (d + 2) 58 [.ref 32, .ref q] 402 402 ρ σ (fun v ρ' σ' => v = none ∧ ρ' = ρ ∧ CMo σ' 32 B (Mo0 B) ∧ (∀ k, (k < 32 ∨ 42 < k) → σ'.1 k = σ.1 k) ∧ σ'.2 = σ.2) := by
  obtain ⟨bO, -, -, ⟨⟨a8, s8, r8⟩, ⟨a9, s9, r9⟩⟩, -⟩ := bo hq hρ
  have w16 := hB.1.2.2.2.1
  -- the strengths
  have loop : ∀ (Q : Po) (τ : St), (∀ σ', (∀ b, b < 6 → ∀ i, i < 8 → σ'.1 (34 + b) i = nI 0) → (∀ k, (k < 34 ∨ 39 < k) → σ'.1 k = τ.1 k) → σ'.2 = τ.2 → Q none ρ σ') →
      ∀ (m b : Nat) (σ1 : St) (L : Value), b + m = 6 → (∀ b', b' < b → ∀ i, i < 8 → σ1.1 (34 + b') i = nI 0) → (∀ k, (k < 34 ∨ 39 < k) → σ1.1 k = τ.1 k) → σ1.2 = τ.2 → Ev l X (d + 2) 58 42 [.ref 32, .ref q, .int (nI b), L] [] 402 402 402 ρ σ1 Q := by
    intro Q τ hQ m
    induction m with
    | zero =>
      intro b σ1 L hm h1 h2 hl
      obtain rfl : b = 6 := by omega
      refine Ev_iload rfl rfl ?_
      refine Ev_const rfl ?_
      refine Ev_icmp_ge rfl (fun h45 => ?_) (fun h45 => absurd (nI_le (a := 6) (b := 6) (by omega) (by omega)) h45)
      exact Ev_return rfl rfl rfl (hQ σ1 h1 h2 hl)
    | succ m ih =>
      intro b σ1 L hm h1 h2 hl
      have inner : ∀ (w i : Nat) (σ2 : St), i + w = 8 → (∀ b', b' < b → ∀ i, i < 8 → σ2.1 (34 + b') i = nI 0) → (∀ i', i' < i → σ2.1 (34 + b) i' = nI 0) → (∀ k, (k < 34 ∨ 39 < k) → σ2.1 k = τ.1 k) → σ2.2 = τ.2 → Ev l X (d + 2) 58 50 [.ref 32, .ref q, .int (nI b), .int (nI i)] [] 402 402 402 ρ σ2 Q := by
        intro w
        induction w with
        | zero =>
          intro i σ2 hw g1 g2 g3 g4
          obtain rfl : i = 8 := by omega
          refine Ev_iload rfl rfl ?_
          refine Ev_const rfl ?_
          refine Ev_icmp_ge rfl (fun h53 => ?_) (fun h53 => absurd (nI_le (a := 8) (b := 8) (by omega) (by omega)) h53)
          refine Ev_iincE rfl rfl (nI_1 b) ?_
          refine Ev_goto rfl ?_
          refine ih (b + 1) σ2 _ (by omega) (fun b' hb' => ?_) g3 g4
          by_cases hz : b' = b
          · rw [hz]; exact g2
          · exact g1 b' (by omega)
        | succ w ihw =>
          intro i σ2 hw g1 g2 g3 g4
          refine Ev_iload rfl rfl ?_
          refine Ev_const rfl ?_
          refine Ev_icmp_ge rfl (fun h53 => absurd h53 (nI_ge (b := 8) (by omega) (by omega))) (fun h53 => ?_)
          refine Ev_aload rfl rfl rfl ?_
          refine Ev_getR rfl (by first | rfl | assumption) (hρ _ _ _ rfl) ?_
          refine Ev_iload rfl rfl ?_
          refine Ev_aald (t := 4) rfl (Or.inl rfl) (by first | rfl | assumption) (vp_in_nI (n := b) (show b < 6 by omega) (by decide)) (by rw [nI_clamp (by omega)]; exact rf33 hρ (by omega) : _ = some (34 + b)) ?_
          refine Ev_iload rfl rfl ?_
          refine Ev_const rfl ?_
          refine Ev_iast rfl ((rowN (show b < 6 by omega)).1) (by rw [(rowN (show b < 6 by omega)).2.1]; exact vp_in_nI (n := i) (show i < 8 by omega) (by decide)) ?_
          refine Ev_iincE rfl rfl (nI_1 i) ?_
          refine Ev_goto rfl ?_
          rw [nI_clamp (show i < 2 ^ 31 by omega)]
          refine ihw (i + 1) _ (by omega) (fun b' hb' i' hi' => ?_) (fun i' hi' => ?_) (fun k hk => ?_) g4
          · rw [sR_1 _ _ (by omega)]; exact g1 b' hb' i' hi'
          · rw [sR_0]
            by_cases hz : i' = i
            · rw [hz, pk_us]; rfl
            · rw [pk_un hz]; exact g2 i' (by omega)
          · rw [sR_1 _ _ (by omega)]; exact g3 k hk
      refine Ev_iload rfl rfl ?_
      refine Ev_const rfl ?_
      refine Ev_icmp_ge rfl (fun h45 => absurd h45 (nI_ge (b := 6) (by omega) (by omega))) (fun h45 => ?_)
      refine Ev_const rfl ?_
      refine Ev_istore rfl ?_
      exact inner 8 0 σ1 (by omega) h1 (fun i hi => absurd hi (Nat.not_lt_zero i)) h2 hl
  have hrow : σ.1 q 13 = nI (np B) := H.2.2.2.1
  refine T_of rfl ?_
  refine Ev_aload rfl rfl rfl ?_
  refine Ev_const rfl ?_
  refine Ev_putI rfl (by first | rfl | assumption) ⟨rfl, rfl⟩ rfl ?_
  refine Ev_aload rfl rfl rfl ?_
  refine Ev_const rfl ?_
  refine Ev_putI rfl (by first | rfl | assumption) ⟨rfl, rfl⟩ rfl ?_
  refine Ev_aload rfl rfl rfl ?_
  refine Ev_aload rfl rfl rfl ?_
  refine Ev_getI rfl bO ?_
  refine Ev_norm (by rw [sR_1 _ _ (by omega), sR_1 _ _ (by omega)]; exact hrow : _ = nI (np B)) ?_
  refine Ev_putI rfl (by first | rfl | assumption) ⟨rfl, rfl⟩ rfl ?_
  refine Ev_aload rfl rfl rfl ?_
  refine Ev_getR rfl bO r8 ?_
  refine Ev_aload rfl rfl rfl ?_
  refine Ev_getR rfl (by first | rfl | assumption) (hρ _ _ _ rfl) ?_
  refine Ev_callS rfl rfl rfl rfl (same_n 402) (t_copyRow _ (N := 16) a8 rfl s8 rfl (by decide)) ?_
  rintro v26 ρ26 σ26 ⟨rfl, e26, f1, g26, h26, k26⟩
  obtain rfl := e26.symm
  refine Ev_aload rfl rfl rfl ?_
  refine Ev_getR rfl bO r9 ?_
  refine Ev_aload rfl rfl rfl ?_
  refine Ev_getR rfl (by first | rfl | assumption) (hρ _ _ _ rfl) ?_
  refine Ev_callS rfl rfl rfl rfl (same_n 402) (t_copyRow _ (N := 16) a9 rfl s9 rfl (by decide)) ?_
  rintro v37 ρ37 σ37 ⟨rfl, e37, f2, g37, h37, k37⟩
  obtain rfl := e37.symm
  refine Ev_const rfl ?_
  refine Ev_istore rfl ?_
  refine loop _ σ37 (fun σ' h1 h2 hl => ?_) 6 0 σ37 _ rfl (fun b' hb' => absurd hb' (Nat.not_lt_zero b')) (fun _ _ => rfl) rfl
  have e32 : σ'.1 32 = upd (upd (upd (σ.1 32) 0 0) 6 0) 2 (nI (np B)) := by
    rw [h2 32 (by omega), g37, sR_1 _ _ (by decide), g26, sR_1 _ _ (by decide), sR_0, sR_0, sR_0]
  have hf1 : ∀ j, j < 16 → f1 j = σ.1 (q + 8) j := fun j hj => by rw [h26 j hj, sR_1 _ _ (by omega), sR_1 _ _ (by omega), sR_1 _ _ (by omega)]
  have hf2 : ∀ j, j < 16 → f2 j = σ.1 (q + 9) j := fun j hj => by rw [h37 j hj, g26, sR_1 _ _ (by omega), sR_1 _ _ (by omega), sR_1 _ _ (by omega), sR_1 _ _ (by omega)]
  have e40 : σ'.1 40 = f1 := by rw [h2 40 (by omega), g37, sR_1 _ _ (by decide), g26, sR_0]
  have e41 : σ'.1 41 = f2 := by rw [h2 41 (by omega), g37, sR_0]
  refine ⟨rfl, rfl, ⟨?_, fun b hb i hi => ?_, ⟨?_, fun k hk => ?_⟩, ?_, Nat.zero_le _, fun j hj => absurd hj (by show ¬ j < 4 * 0; omega)⟩, fun k hk => ?_, by rw [hl, g37, g26]; rfl⟩
  · rw [e32, pk_un (by decide), pk_un (by decide), pk_us]; rfl
  · rw [show 32 + 2 + b = 34 + b by omega]; exact h1 b hb i hi
  · rw [e32, pk_us]
  · show σ'.1 40 k = nI (plF B (2 * k)) ∧ σ'.1 41 k = nI (plF B (2 * k + 1))
    rw [e40, e41, hf1 k (by omega), hf2 k (by omega)]
    unfold plF
    rw [if_pos (by omega), if_neg (by omega), show 2 * k / 2 = k by omega, show (2 * k + 1) / 2 = k by omega]
    exact HP k hk
  · rw [e32, pk_un (by decide), pk_us]; rfl
  · rw [h2 k (by omega), g37, sR_1 _ _ (by omega), g26, sR_1 _ _ (by omega), sR_1 _ _ (by omega), sR_1 _ _ (by omega), sR_1 _ _ (by omega)]
end S88zzh
