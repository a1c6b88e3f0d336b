/-! A beach read by the class: formulas. -/
theorem rf_318 {ρ : Rf} (hρ : RF ρ) (O : Nat) : RF (sR ρ 318 (va_up (ρ 318) 1 (some O))) := by
  intro k j x h
  by_cases hk : k = 318
  · subst hk
    by_cases hj : j = 1
    · subst hj; cases h
    · have e : sR ρ 318 (va_up (ρ 318) 1 (some O)) 318 j = ρ 318 j := by simp [sR, va_up, hj]
      rw [e]; exact hρ _ _ _ h
  · have e : sR ρ 318 (va_up (ρ 318) 1 (some O)) k j = ρ k j := by simp [sR, hk]
    rw [e]; exact hρ _ _ _ h
theorem rf_318o {ρ : Rf} (O : Nat) : sR ρ 318 (va_up (ρ 318) 1 (some O)) 318 1 = some O := by simp [sR, va_up]
theorem rf_318n {ρ : Rf} (O : Nat) {k j : Nat} (h : k ≠ 318) : sR ρ 318 (va_up (ρ 318) 1 (some O)) k j = ρ k j := by simp [sR, h]
theorem CNew.aF {σ σ' : St} {q : Nat} {B : Bh} {k : Nat} {cs : List Nat} (H : CNew σ q B) (hk : k < 4) (hn : frm B k = none) (h1 : σ'.1 (q + 13) = upd (σ.1 (q + 13)) k (nI (flen B))) (h2 : σ'.1 (q + 14) = upd (σ.1 (q + 14)) k (nI (flen B + cs.length))) (h3 : ∀ j, j < flen B → σ'.1 (q + 11) j = σ.1 (q + 11) j) (h4 : ∀ j, j < cs.length → σ'.1 (q + 11) (flen B + j) = nI (cc (cs.getD j 0))) (h5 : σ'.1 (q + 10) 2 = nI (flen B + cs.length)) (h6 : ∀ r, r ≤ 9 → σ'.1 (q + r) = σ.1 (q + r)) : CNew σ' q (adF B k cs) := by
  obtain ⟨g1, gi, gb, gp, gf, gs⟩ := H
  have efl := fl_adF (cs := cs) hk hn
  refine ⟨?_, fun i hi => ?_, fun b hb => ?_, fun j hj => ?_, fun j hj => ?_, by rw [h5, efl]⟩
  · unfold CNum; rw [show σ'.1 q = σ.1 q from h6 0 (by decide)]; exact g1
  · rw [h6 1 (by decide), h6 2 (by decide), h6 3 (by decide)]; exact gi i hi
  · rw [h6 5 (by decide), h6 6 (by decide), h6 7 (by decide)]; exact gb b hb
  · rw [h6 8 (by decide), h6 9 (by decide)]; exact gp j hj
  · rw [h1, h2, efl]
    by_cases hq : j = k
    · subst hq
      rw [show frm (adF B j cs) j = some cs from upF_s _ _ _]
      exact ⟨flen B, flen B + cs.length, pk_us, pk_us, rfl, Nat.le_refl _, h4⟩
    · rw [show frm (adF B k cs) j = frm B j from upF_n hq]
      have g := gf j hj
      cases hf : frm B j with
      | none => rw [hf] at g; simp only at g ⊢; rw [pk_un hq]; exact g
      | some cs' =>
        rw [hf] at g
        obtain ⟨a, b, k1, k2, k3, k4, k5⟩ := g
        exact ⟨a, b, by rw [pk_un hq]; exact k1, by rw [pk_un hq]; exact k2, k3, by omega, fun q hq2 => by rw [h3 _ (by omega)]; exact k5 q hq2⟩
section S88zzd
variable {l : Launch} {X : Cx} {ρ : Rf} {U : Tx} {q : Nat} {B : Bh}
/-- what reading a formula leaves -/
def RdQ (U : Tx) (O bs k : Nat) (ρ : Rf) (σ : St) (y : Xs) : Po := fun v ρ' σ' => v = none ∧ (RF ρ' ∧ ∀ k j, k ≠ 318 → ρ' k j = ρ k j) ∧ CTt σ' U y.1 ∧ COr σ' O bs y.2 ∧ CF (fun a b => cFo O bs a b || (Nat.beq a 318 && Nat.beq b 2)) σ σ'
theorem fo_pre {σ : St} {s : Rdg} {O bs k : Nat} (hO : OkO O) (H : CTt σ U s) (hC : COr σ O bs []) : FPr (sI σ 318 (upd (σ.1 318) 2 (nI k))) U O bs k (s, []) ∧ CF (fun a b => cFo O bs a b || (Nat.beq a 318 && Nat.beq b 2)) σ (sI σ 318 (upd (σ.1 318) 2 (nI k))) := by
  have h3 : O ≠ 318 ∧ O + 1 ≠ 318 := by rcases hO with rfl | rfl | rfl <;> decide
  have hcf : CF (fun a b => Nat.beq a 318 && Nat.beq b 2) σ (sI σ 318 (upd (σ.1 318) 2 (nI k))) := CF.put σ _ rfl
  refine ⟨⟨H.cf hcf (fun _ => rfl) (fun _ => rfl), hC.cf hcf (fun j => ?_) (fun j => ?_), by rw [sR_0, pk_us]⟩, hcf.wk (fun k j h => ?_)⟩
  · show (Nat.beq O 318 && Nat.beq j 2) = false; rw [nbeq h3.1]; rfl
  · show (Nat.beq (O + 1) 318 && Nat.beq j 2) = false; rw [nbeq h3.2]; rfl
  · exact (Bool.or_eq_false_iff.mp h).2
theorem fo_post {ρ' : Rf} {σ σ1 σ' : St} {O bs k : Nat} {y : Xs} {v : Option Value} (h : FoQ O bs U k (sR ρ 318 (va_up (ρ 318) 1 (some O))) σ1 y v ρ' σ') (hρ : RF ρ) (hc : CF (fun a b => cFo O bs a b || (Nat.beq a 318 && Nat.beq b 2)) σ σ1) : RdQ U O bs k ρ σ y v ρ' σ' := by
  obtain ⟨h1, h2, h3, h4⟩ := h
  subst h2
  exact ⟨h1, ⟨rf_318 hρ O, fun k j hk => rf_318n O hk⟩, h3.1, h3.2.1, hc.tr (h4.wk (fun k j z => (Bool.or_eq_false_iff.mp z).1))⟩
theorem t_readSum (d : Nat) {σ : St} {s : Rdg} {O bs k : Nat} (hρ : RF ρ) (hT : TxW U) (hO : OkO O) (hk : k < 5) (hk3 : k ≠ 3) (H : CTt σ U s) (hC : COr σ O bs []) :
    T l X (d + 40) 36 [.ref 318, .ref O, .int (nI k)] 400 400 ρ σ (RdQ U O bs k ρ σ ((lvl U k 6).2.2.1 (s, []))) := by
  obtain ⟨p1, p2⟩ := fo_pre (k := k) hO H hC
  have hl := (t_lvl (l := l) (X := X) (bs := bs) (hk5 := hk) (rf_318 hρ O) hT hO (rf_318o O) 6 0 rfl).2.2.1
  refine T_of rfl ?_
  refine Ev_aload rfl rfl rfl ?_
  refine Ev_aload rfl rfl rfl ?_
  refine Ev_putR rfl (by first | rfl | assumption) (fun _ => ⟨rfl, rfl⟩) (Or.inl rfl) ?_
  refine Ev_aload rfl rfl rfl ?_
  refine Ev_iload rfl rfl ?_
  refine Ev_putI rfl (by first | rfl | assumption) ⟨rfl, rfl⟩ rfl ?_
  refine Ev_aload rfl rfl rfl ?_
  refine Ev_const rfl ?_
  refine Ev_callV rfl rfl rfl rfl rfl (same_n 400) (hl _ _ _ (by omega) p1) ?_
  rintro v12 ρ12 σ12 ⟨rfl, hp⟩
  exact Ev_return rfl rfl rfl (fo_post ⟨rfl, hp⟩ hρ p2)
theorem t_readTest (d : Nat) {σ : St} {s : Rdg} {O bs k : Nat} (hρ : RF ρ) (hT : TxW U) (hO : OkO O) (hk : k < 5) (H : CTt σ U s) (hC : COr σ O bs []) :
    T l X (d + 40) 35 [.ref 318, .ref O, .int (nI k)] 400 400 ρ σ (RdQ U O bs k ρ σ ((lvl U k 6).2.1 (s, []))) := by
  obtain ⟨p1, p2⟩ := fo_pre (k := k) hO H hC
  have hl := (t_lvl (l := l) (X := X) (bs := bs) (hk5 := hk) (rf_318 hρ O) hT hO (rf_318o O) 6 0 rfl).2.1
  refine T_of rfl ?_
  refine Ev_aload rfl rfl rfl ?_
  refine Ev_aload rfl rfl rfl ?_
  refine Ev_putR rfl (by first | rfl | assumption) (fun _ => ⟨rfl, rfl⟩) (Or.inl rfl) ?_
  refine Ev_aload rfl rfl rfl ?_
  refine Ev_iload rfl rfl ?_
  refine Ev_putI rfl (by first | rfl | assumption) ⟨rfl, rfl⟩ rfl ?_
  refine Ev_aload rfl rfl rfl ?_
  refine Ev_const rfl ?_
  refine Ev_callV rfl rfl rfl rfl rfl (same_n 400) (hl _ _ _ (by omega) p1) ?_
  rintro v12 ρ12 σ12 ⟨rfl, hp⟩
  exact Ev_return rfl rfl rfl (fo_post ⟨rfl, hp⟩ hρ p2)
end S88zzd
