/-! A beach read by the class: formulas. -/
theorem rf_318 {ρ : Rf} (hρ : RF ρ) (O : Nat) : RF (sR ρ 318 (va_up (ρ 318) 1 (some O))) := by
  intro k j x h
  by_cases hk : k = 318
  · subst hk
    by_cases hj : j = 1
    · subst hj; cases h
    · have e : sR ρ 318 (va_up (ρ 318) 1 (some O)) 318 j = ρ 318 j := by simp [sR, va_up, hj]
      rw [e]; exact hρ _ _ _ h
  · have e : sR ρ 318 (va_up (ρ 318) 1 (some O)) k j = ρ k j := by simp [sR, hk]
    rw [e]; exact hρ _ _ _ h
theorem rf_318o {ρ : Rf} (O : Nat) : sR ρ 318 (va_up (ρ 318) 1 (some O)) 318 1 = some O := by simp [sR, va_up]
theorem rf_318n {ρ : Rf} (O : Nat) {k j : Nat} (h : k ≠ 318) : sR ρ 318 (va_up (ρ 318) 1 (some O)) k j = ρ k j := by simp [sR, h]
theorem CNew.aF {σ σ' : St} {q : Nat} {B : Bh} {k : Nat} {cs : List Nat} (H : CNew σ q B) (hk : k < 4) (hn : frm B k = none) (h1 : σ'.1 (q + 12) = upd (σ.1 (q + 12)) k (nI (flen B))) (h2 : σ'.1 (q + 13) = upd (σ.1 (q + 13)) k (nI (flen B + cs.length))) (h3 : ∀ j, j < flen B → σ'.1 (q + 11) j = σ.1 (q + 11) j) (h4 : ∀ j, j < cs.length → σ'.1 (q + 11) (flen B + j) = nI (cc (cs.getD j 0))) (h5 : σ'.1 (q + 10) 4 = nI (flen B + cs.length)) (h6 : ∀ r, r ≤ 9 → σ'.1 (q + r) = σ.1 (q + r)) : CNew σ' q (adF B k cs) := by
  obtain ⟨g1, gi, gb, gp, gf, gs⟩ := H
  have efl := fl_adF (cs := cs) hk hn
  refine ⟨?_, fun i hi => ?_, fun b hb => ?_, fun j hj => ?_, fun j hj => ?_, by rw [h5, efl]⟩
  · unfold CNum; rw [show σ'.1 q = σ.1 q from h6 0 (by decide)]; exact g1
  · rw [h6 1 (by decide), h6 2 (by decide), h6 3 (by decide)]; exact gi i hi
  · rw [h6 5 (by decide), h6 6 (by decide), h6 7 (by decide)]; exact gb b hb
  · rw [h6 8 (by decide), h6 9 (by decide)]; exact gp j hj
  · rw [h1, h2, efl]
    by_cases hq : j = k
    · subst hq
      rw [show frm (adF B j cs) j = some cs from upF_s _ _ _]
      exact ⟨flen B, flen B + cs.length, pk_us, pk_us, rfl, Nat.le_refl _, h4⟩
    · rw [show frm (adF B k cs) j = frm B j from upF_n hq]
      have g := gf j hj
      cases hf : frm B j with
      | none => rw [hf] at g; simp only at g ⊢; rw [pk_un hq]; exact g
      | some cs' =>
        rw [hf] at g
        obtain ⟨a, b, k1, k2, k3, k4, k5⟩ := g
        exact ⟨a, b, by rw [pk_un hq]; exact k1, by rw [pk_un hq]; exact k2, k3, by omega, fun q hq2 => by rw [h3 _ (by omega)]; exact k5 q hq2⟩
section S88zzd
variable {l : Launch} {X : Cx} {ρ : Rf} {U : Tx} {q : Nat} {B : Bh}
/-! where a kind's formula begins, ends -/
theorem t_isTold (d : Nat) {σ : St} {O k : Nat} (hρ : RF ρ) (hO : OkO O) (hk : k < 5) : T l X d 66 [.ref O, .int (nI k)] 402 402 ρ σ (Rs (.int (bI (!decide (σ.1 (O + 2) k = -1)))) ρ σ) := by
  have o := OrdO_of hρ hO
  refine T_of rfl ?_
  refine Ev_aload rfl rfl rfl ?_
  refine Ev_getR rfl o.1 o.2.2.2.2.2.2.2.2.2.2.1 ?_
  refine Ev_iload rfl rfl ?_
  refine Ev_iald rfl o.2.2.2.2.2.2.2.2.1 (by rw [o.2.2.2.2.2.2.2.2.2.1]; exact vp_in_nI hk (by decide)) ?_
  refine Ev_norm (by rw [nI_clamp (by omega)] : _ = σ.1 (O + 2) k) ?_
  refine Ev_const rfl ?_
  refine Ev_icmp_eq rfl (fun h7 => ?_) (fun h7 => ?_)
  · refine Ev_const rfl ?_
    exact Ev_ireturn rfl rfl (narZ false) rfl ⟨by rw [decide_eq_true h7]; rfl, rfl, rfl⟩
  · refine Ev_const rfl ?_
    refine Ev_goto rfl ?_
    exact Ev_ireturn rfl rfl (narZ true) rfl ⟨by rw [decide_eq_false h7]; rfl, rfl, rfl⟩
theorem t_ordBegin (d : Nat) {σ : St} {O k : Nat} (hρ : RF ρ) (hO : OkO O) (hk : k < 5) : T l X d 67 [.ref O, .int (nI k)] 402 402 ρ σ (Ru ρ (sI σ (O + 2) (upd (σ.1 (O + 2)) k (σ.1 O 4)))) := by
  have o := OrdO_of hρ hO
  refine T_of rfl ?_
  refine Ev_aload rfl rfl rfl ?_
  refine Ev_getR rfl o.1 o.2.2.2.2.2.2.2.2.2.2.1 ?_
  refine Ev_iload rfl rfl ?_
  refine Ev_aload rfl rfl rfl ?_
  refine Ev_getI rfl o.1 ?_
  refine Ev_iast rfl o.2.2.2.2.2.2.2.2.1 (by rw [o.2.2.2.2.2.2.2.2.2.1]; exact vp_in_nI hk (by decide)) ?_
  rw [nI_clamp (show k < 2 ^ 31 by omega)]
  exact Ev_return rfl rfl rfl ⟨rfl, rfl, rfl⟩
theorem t_ordFinish (d : Nat) {σ : St} {O k : Nat} (hρ : RF ρ) (hO : OkO O) (hk : k < 5) : T l X d 68 [.ref O, .int (nI k)] 402 402 ρ σ (Ru ρ (sI σ (O + 3) (upd (σ.1 (O + 3)) k (σ.1 O 4)))) := by
  have o := OrdO_of hρ hO
  refine T_of rfl ?_
  refine Ev_aload rfl rfl rfl ?_
  refine Ev_getR rfl o.1 o.2.2.2.2.2.2.2.2.2.2.2.2.2 ?_
  refine Ev_iload rfl rfl ?_
  refine Ev_aload rfl rfl rfl ?_
  refine Ev_getI rfl o.1 ?_
  refine Ev_iast rfl o.2.2.2.2.2.2.2.2.2.2.2.1 (by rw [o.2.2.2.2.2.2.2.2.2.2.2.2.1]; exact vp_in_nI hk (by decide)) ?_
  rw [nI_clamp (show k < 2 ^ 31 by omega)]
  exact Ev_return rfl rfl rfl ⟨rfl, rfl, rfl⟩
/-- the state in which a formula's reading begins -/
def foS (σ : St) (O k : Nat) (x : Int32) : St := sI (sI σ 318 (upd (σ.1 318) 2 (nI k))) (O + 2) (upd (σ.1 (O + 2)) k x)
theorem t_foBegin (d : Nat) {σ : St} {O k : Nat} (hρ : RF ρ) (hO : OkO O) (hk : k < 5) : T l X (d + 1) 33 [.ref 318, .ref O, .int (nI k)] 402 402 ρ σ (Ru (sR ρ 318 (va_up (ρ 318) 1 (some O))) (foS σ O k (σ.1 O 4))) := by
  have o := OrdO_of hρ hO
  have h3 : O ≠ 318 ∧ O + 2 ≠ 318 := by rcases hO with rfl | rfl | rfl <;> decide
  refine T_of rfl ?_
  refine Ev_aload rfl rfl rfl ?_
  refine Ev_aload rfl rfl rfl ?_
  refine Ev_putR rfl (by first | rfl | assumption) (fun _ => ⟨rfl, rfl⟩) (Or.inl rfl) ?_
  refine Ev_aload rfl rfl rfl ?_
  refine Ev_iload rfl rfl ?_
  refine Ev_putI rfl (by first | rfl | assumption) ⟨rfl, rfl⟩ rfl ?_
  refine Ev_aload rfl rfl rfl ?_
  refine Ev_getR rfl (by first | rfl | assumption) (rf_318o O) ?_
  refine Ev_aload rfl rfl rfl ?_
  refine Ev_getI rfl (by first | rfl | assumption) ?_
  refine Ev_norm (by rw [sR_0, pk_us] : _ = nI k) ?_
  refine Ev_callV rfl rfl rfl o.1 rfl (same_n 402) (t_ordBegin _ (rf_318 hρ O) hO hk) ?_
  rintro v18 ρ18 σ18 ⟨rfl, e18, g18⟩
  obtain rfl := e18.symm
  obtain rfl := g18.symm
  exact Ev_return rfl rfl rfl ⟨rfl, rfl, by unfold foS; rw [sR_1 _ _ h3.2, sR_1 _ _ h3.1]⟩
theorem fo_pre {σ : St} {s : Rdg} {O bs k : Nat} {x : Int32} (hO : OkO O) (H : CTt σ U s) (hC : COr σ O bs []) : FPr (foS σ O k x) U O bs k (s, []) := by
  have h3 : (O ≠ 318 ∧ O + 1 ≠ 318) ∧ O + 2 ≠ 318 ∧ O + 2 ≠ 316 ∧ O + 2 ≠ 1 := by rcases hO with rfl | rfl | rfl <;> decide
  have hcf : CF (fun a b => (Nat.beq a 318 && Nat.beq b 2) || Nat.beq a (O + 2)) σ (foS σ O k x) := (CF.put σ _ rfl).tr (CF.cell _ _ (fun j => by show (_ || Nat.beq (O + 2) (O + 2)) = true; rw [Nat.beq_refl]; exact Bool.or_true _))
  refine ⟨H.cf hcf (fun _ => ?_) (fun _ => ?_), hC.cf hcf (fun j => ?_) (fun j => ?_), by unfold foS; rw [sR_1 _ _ (Ne.symm h3.2.1), sR_0, pk_us]⟩
  · show ((_ && _) || Nat.beq 316 (O + 2)) = false; rw [nbeq (Ne.symm h3.2.2.1)]; rfl
  · show ((_ && _) || Nat.beq 1 (O + 2)) = false; rw [nbeq (Ne.symm h3.2.2.2)]; rfl
  · show ((Nat.beq O 318 && _) || Nat.beq O (O + 2)) = false; rw [nbeq h3.1.1, nbeq (show O ≠ O + 2 by omega)]; rfl
  · show ((Nat.beq (O + 1) 318 && _) || Nat.beq (O + 1) (O + 2)) = false; rw [nbeq h3.1.2, nbeq (show O + 1 ≠ O + 2 by omega)]; rfl
/-- a test, a sum read, from where the reading begins -/
theorem t_foTest (d : Nat) {σ : St} {s : Rdg} {O bs k : Nat} (hρ : RF ρ) (hT : TxW U) (hO : OkO O) (hk : k < 5) (H : FPr σ U O bs k (s, [])) :
    T l X (d + 39) 34 [.ref 318, .int 0] 402 402 (sR ρ 318 (va_up (ρ 318) 1 (some O))) σ (FoQ O bs U k (sR ρ 318 (va_up (ρ 318) 1 (some O))) σ ((lvl U k 6).2.1 (s, []))) :=
  (t_lvl (l := l) (X := X) (bs := bs) (hk5 := hk) (rf_318 hρ O) hT hO (rf_318o O) 6 0 rfl).2.1 _ _ _ (by omega) H
theorem t_foSum (d : Nat) {σ : St} {s : Rdg} {O bs k : Nat} (hρ : RF ρ) (hT : TxW U) (hO : OkO O) (hk : k < 5) (H : FPr σ U O bs k (s, [])) :
    T l X (d + 39) 38 [.ref 318, .int 0] 402 402 (sR ρ 318 (va_up (ρ 318) 1 (some O))) σ (FoQ O bs U k (sR ρ 318 (va_up (ρ 318) 1 (some O))) σ ((lvl U k 6).2.2.1 (s, []))) :=
  (t_lvl (l := l) (X := X) (bs := bs) (hk5 := hk) (rf_318 hρ O) hT hO (rf_318o O) 6 0 rfl).2.2.1 _ _ _ (by omega) H
end S88zzd
