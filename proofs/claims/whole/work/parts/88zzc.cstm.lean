/-! A beach read by the class: ideas, needs, bathers, the plan. -/
theorem CTe.ft0 {σ : St} {U : Tx} {p : Nat × Nat} (H : CTe σ U (.inr p)) : σ.1 316 6 = 0 := H.2.2.2.1.1
theorem CTe.ftE {σ : St} {U : Tx} {e : Nat × Nat} (H : CTe σ U (.inl e)) : ∃ x, σ.1 316 6 = x ∧ ¬ x = 0 := ⟨_, H.2.1, nI_ne0 H.2.2.2.1.1 (by have := H.2.2.2.1.2; omega)⟩
theorem CTe.ftO {σ : St} {U : Tx} {s : Rdg} (H : CTe σ U s) (h : isOk s = true) : σ.1 316 6 = 0 := by
  cases s with
  | inl e => cases h
  | inr p => exact H.ft0
theorem CTe.ftN {σ : St} {U : Tx} {s : Rdg} (H : CTe σ U s) (h : isOk s = false) : ∃ x, σ.1 316 6 = x ∧ ¬ x = 0 := by
  obtain ⟨e, rfl⟩ := not_inl h
  exact H.ftE
theorem CNew.rb {σ : St} {q : Nat} {B : Bh} (H : CNew σ q B) (h1 : ni B ≤ 8) (h2 : nb B ≤ 6) (h3 : np B ≤ 16) (hf : flen B ≤ 1620) : CRo σ q := by
  obtain ⟨⟨g1, -, g3, g4, -⟩, -, -, -, -, g6⟩ := H
  exact ⟨⟨_, h1, g1⟩, ⟨_, h2, g3⟩, ⟨_, h3, g4⟩, ⟨_, hf, g6⟩⟩
theorem CRo.cf {C : Nat → Nat → Bool} {σ σ' : St} {q : Nat} (H : CRo σ q) (hs : CF C σ σ') (h1 : ∀ j, C q j = false) (h2 : ∀ j, C (q + 10) j = false) : CRo σ' q := by
  obtain ⟨⟨a, a1, a2⟩, ⟨b, b1, b2⟩, ⟨c, c1, c2⟩, ⟨d, d1, d2⟩⟩ := H
  exact ⟨⟨a, a1, by rw [hs.1 _ _ (h1 _)]; exact a2⟩, ⟨b, b1, by rw [hs.1 _ _ (h1 _)]; exact b2⟩, ⟨c, c1, by rw [hs.1 _ _ (h1 _)]; exact c2⟩, ⟨d, d1, by rw [hs.1 _ _ (h2 _)]; exact d2⟩⟩
theorem CRo.tt {σ σ' : St} {q : Nat} (hq : q = 2 ∨ q = 17) (H : CRo σ q) (hs : CF cTt σ σ') : CRo σ' q := H.cf hs (fun j => cTt_f (by omega)) (fun j => cTt_f (by omega))
theorem CTe.bq {σ σ' : St} {U : Tx} {s : Rdg} {q : Nat} (hq : q = 2 ∨ q = 17) (H : CTe σ U s) (hs : CF (fun k _ => cBq q k) σ σ') : CTe σ' U s := by
  refine H.cf hs (fun j => ?_) (fun j => ?_)
  · rcases hq with rfl | rfl <;> rfl
  · rcases hq with rfl | rfl <;> rfl
theorem cf_cell {q r : Nat} {σ : St} (f : Nat → Int32) (hr : r ≤ 14) : CF (fun k _ => cBq q k) σ (sI σ (q + r) f) := CF.cell σ f (fun _ => cBq_y hr)
theorem CNew.aI {σ σ' : St} {q : Nat} {B : Bh} {nm : List Nat} {dp : Nat} (H : CNew σ q B) (h1 : σ'.1 (q + 1) = upd (σ.1 (q + 1)) (ni B) (nI (n5 nm))) (h2 : σ'.1 (q + 2) = upd (σ.1 (q + 2)) (ni B) (nI dp)) (h3 : σ'.1 (q + 3) = upd (σ.1 (q + 3)) (ni B) (nI 0)) (h0 : σ'.1 q = upd (σ.1 q) 10 (nI (ni B + 1))) (h : ∀ r, 4 ≤ r → r ≤ 14 → σ'.1 (q + r) = σ.1 (q + r)) : CNew σ' q (adI B nm dp) := by
  obtain ⟨⟨g0, g1, g2, g3, g4⟩, gi, gb, gp, gf, gs⟩ := H
  refine ⟨⟨?_, ?_, ?_, ?_, ?_⟩, fun i hi => ?_, fun b hb => ?_, fun k hk => ?_, ?_, by rw [h 10 (by decide) (by decide)]; exact gs⟩
  · rw [h0, pk_us]; rfl
  · rw [h0, pk_un (by decide)]; exact g1
  · rw [h0, pk_un (by decide)]; exact g2
  · rw [h0, pk_un (by decide)]; exact g3
  · rw [h0, pk_un (by decide)]; exact g4
  · have hi : i < ni B + 1 := hi
    rw [h1, h2, h3]
    show upd (σ.1 (q + 1)) (ni B) (nI (n5 nm)) i = nI (n5 (upF B.2.2.1 (ni B) nm i)) ∧ upd (σ.1 (q + 2)) (ni B) (nI dp) i = nI (upF (B.2.1 0) (ni B) dp i) ∧ upd (σ.1 (q + 3)) (ni B) (nI 0) i = nI (upF (B.2.1 1) (ni B) 0 i)
    by_cases hz : i = ni B
    · rw [hz, pk_us, upF_s, pk_us, upF_s, pk_us, upF_s]; exact ⟨rfl, rfl, rfl⟩
    · rw [pk_un hz, upF_n hz, pk_un hz, upF_n hz, pk_un hz, upF_n hz]; exact gi i (by omega)
  · rw [h 5 (by decide) (by decide), h 6 (by decide) (by decide), h 7 (by decide) (by decide)]; exact gb b hb
  · rw [h 8 (by decide) (by decide), h 9 (by decide) (by decide)]; exact gp k hk
  · unfold CNf; rw [h 12 (by decide) (by decide), h 13 (by decide) (by decide), h 11 (by decide) (by decide)]; exact gf
theorem CNew.aN {σ σ' : St} {q : Nat} {B : Bh} {a b : Nat} (H : CNew σ q B) (h3 : σ'.1 (q + 3) = upd (σ.1 (q + 3)) b (nI (nee B b ||| 2 ^ a))) (h0 : σ'.1 q = upd (σ.1 q) 11 (nI (nn B + 1))) (h : ∀ r, 1 ≤ r → r ≠ 3 → r ≤ 14 → σ'.1 (q + r) = σ.1 (q + r)) : CNew σ' q (adN B a b) := by
  obtain ⟨⟨g0, g1, g2, g3, g4⟩, gi, gb, gp, gf, gs⟩ := H
  refine ⟨⟨?_, ?_, ?_, ?_, ?_⟩, fun i hi => ?_, fun b hb => ?_, fun k hk => ?_, ?_, by rw [h 10 (by decide) (by decide) (by decide)]; exact gs⟩
  · rw [h0, pk_un (by decide)]; exact g0
  · rw [h0, pk_us]; rfl
  · rw [h0, pk_un (by decide)]; exact g2
  · rw [h0, pk_un (by decide)]; exact g3
  · rw [h0, pk_un (by decide)]; exact g4
  · rw [h 1 (by decide) (by decide) (by decide), h 2 (by decide) (by decide) (by decide), h3]
    refine ⟨(gi i hi).1, (gi i hi).2.1, ?_⟩
    show upd (σ.1 (q + 3)) b (nI (nee B b ||| 2 ^ a)) i = nI (upF (B.2.1 1) b (nee B b ||| 2 ^ a) i)
    by_cases hz : i = b
    · rw [hz, pk_us, upF_s]
    · rw [pk_un hz, upF_n hz]; exact (gi i hi).2.2
  · rw [h 5 (by decide) (by decide) (by decide), h 6 (by decide) (by decide) (by decide), h 7 (by decide) (by decide) (by decide)]; exact gb b hb
  · rw [h 8 (by decide) (by decide) (by decide), h 9 (by decide) (by decide) (by decide)]; exact gp k hk
  · unfold CNf; rw [h 12 (by decide) (by decide) (by decide), h 13 (by decide) (by decide) (by decide), h 11 (by decide) (by decide) (by decide)]; exact gf
theorem CNew.aB {σ σ' : St} {q : Nat} {B : Bh} {nm : List Nat} {lu wi : Nat} (H : CNew σ q B) (h1 : σ'.1 (q + 5) = upd (σ.1 (q + 5)) (nb B) (nI (n5 nm))) (h2 : σ'.1 (q + 6) = upd (σ.1 (q + 6)) (nb B) (nI lu)) (h3 : σ'.1 (q + 7) = upd (σ.1 (q + 7)) (nb B) (nI wi)) (h0 : σ'.1 q = upd (σ.1 q) 12 (nI (nb B + 1))) (h : ∀ r, 1 ≤ r → (r < 5 ∨ 7 < r) → r ≤ 14 → σ'.1 (q + r) = σ.1 (q + r)) : CNew σ' q (adB B nm lu wi) := by
  obtain ⟨⟨g0, g1, g2, g3, g4⟩, gi, gb, gp, gf, gs⟩ := H
  refine ⟨⟨?_, ?_, ?_, ?_, ?_⟩, fun i hi => ?_, fun b hb => ?_, fun k hk => ?_, ?_, by rw [h 10 (by decide) (by decide) (by decide)]; exact gs⟩
  · rw [h0, pk_un (by decide)]; exact g0
  · rw [h0, pk_un (by decide)]; exact g1
  · rw [h0, pk_us]; rfl
  · rw [h0, pk_un (by decide)]; exact g3
  · rw [h0, pk_un (by decide)]; exact g4
  · rw [h 1 (by decide) (by decide) (by decide), h 2 (by decide) (by decide) (by decide), h 3 (by decide) (by decide) (by decide)]; exact gi i hi
  · have hb : b < nb B + 1 := hb
    rw [h1, h2, h3]
    show upd (σ.1 (q + 5)) (nb B) (nI (n5 nm)) b = nI (n5 (upF B.2.2.2.1 (nb B) nm b)) ∧ upd (σ.1 (q + 6)) (nb B) (nI lu) b = nI (upF (B.2.1 2) (nb B) lu b) ∧ upd (σ.1 (q + 7)) (nb B) (nI wi) b = nI (upF (B.2.1 3) (nb B) wi b)
    by_cases hz : b = nb B
    · rw [hz, pk_us, upF_s, pk_us, upF_s, pk_us, upF_s]; exact ⟨rfl, rfl, rfl⟩
    · rw [pk_un hz, upF_n hz, pk_un hz, upF_n hz, pk_un hz, upF_n hz]; exact gb b (by omega)
  · rw [h 8 (by decide) (by decide) (by decide), h 9 (by decide) (by decide) (by decide)]; exact gp k hk
  · unfold CNf; rw [h 12 (by decide) (by decide) (by decide), h 13 (by decide) (by decide) (by decide), h 11 (by decide) (by decide) (by decide)]; exact gf
theorem CNew.aP {σ σ' : St} {q : Nat} {B : Bh} {b0 i0 : Nat} (H : CNew σ q B) (h2 : σ'.1 (q + 8) = upd (σ.1 (q + 8)) (np B) (nI b0)) (h3 : σ'.1 (q + 9) = upd (σ.1 (q + 9)) (np B) (nI i0)) (h0 : σ'.1 q = upd (σ.1 q) 13 (nI (np B + 1))) (h : ∀ r, 1 ≤ r → (r < 8 ∨ 9 < r) → r ≤ 14 → σ'.1 (q + r) = σ.1 (q + r)) : CNew σ' q (adP B b0 i0) := by
  obtain ⟨⟨g0, g1, g2, g3, g4⟩, gi, gb, gp, gf, gs⟩ := H
  refine ⟨⟨?_, ?_, ?_, ?_, ?_⟩, fun i hi => ?_, fun b hb => ?_, fun k hk => ?_, ?_, by rw [h 10 (by decide) (by decide) (by decide)]; exact gs⟩
  · rw [h0, pk_un (by decide)]; exact g0
  · rw [h0, pk_un (by decide)]; exact g1
  · rw [h0, pk_un (by decide)]; exact g2
  · rw [h0, pk_us]; rfl
  · rw [h0, pk_un (by decide)]; exact g4
  · rw [h 1 (by decide) (by decide) (by decide), h 2 (by decide) (by decide) (by decide), h 3 (by decide) (by decide) (by decide)]; exact gi i hi
  · rw [h 5 (by decide) (by decide) (by decide), h 6 (by decide) (by decide) (by decide), h 7 (by decide) (by decide) (by decide)]; exact gb b hb
  · have hk : k < np B + 1 := hk
    rw [h2, h3]
    show upd (σ.1 (q + 8)) (np B) (nI b0) k = nI (upF (B.2.1 4) (np B) b0 k) ∧ upd (σ.1 (q + 9)) (np B) (nI i0) k = nI (upF (B.2.1 5) (np B) i0 k)
    by_cases hz : k = np B
    · rw [hz, pk_us, upF_s, pk_us, upF_s]; exact ⟨rfl, rfl⟩
    · rw [pk_un hz, upF_n hz, pk_un hz, upF_n hz]; exact gp k (by omega)
  · unfold CNf; rw [h 12 (by decide) (by decide) (by decide), h 13 (by decide) (by decide) (by decide), h 11 (by decide) (by decide) (by decide)]; exact gf
section S88zzc
variable {l : Launch} {X : Cx} {ρ : Rf} {U : Tx} {q : Nat} {B : Bh}
theorem t_addIdea (d : Nat) {σ : St} {nm : List Nat} {dp : Nat} (hq : q = 2 ∨ q = 17) (hρ : RF ρ) (hB : WfB B) (hf : flen B ≤ 1620) (H : CNew σ q B) :
    T l X d 5 [.ref q, .int (nI (n5 nm)), .int (nI dp)] 402 402 ρ σ (fun v ρ' σ' => v = none ∧ ρ' = ρ ∧ CRo σ' q ∧ (ni B < 8 → CNew σ' q (adI B nm dp)) ∧ CF (fun k _ => cBq q k) σ σ') := by
  obtain ⟨bO, ⟨⟨a1, s1, r1⟩, ⟨a2, s2, r2⟩, ⟨a3, s3, r3⟩, -⟩, -⟩ := bo hq hρ
  have h8 := hB.1.1
  have w6 := hB.1.2.1
  have w16 := hB.1.2.2.2.1
  by_cases hn : ni B < 8
  · refine T_of rfl ?_
    refine Ev_aload rfl rfl rfl ?_
    refine Ev_getI rfl (by first | rfl | assumption) ?_
    refine Ev_norm H.1.1 ?_
    refine Ev_const rfl ?_
    refine Ev_icmp_ge rfl (fun h6 => absurd h6 (nI_ge (b := 8) (by omega) (by omega))) (fun h6 => ?_)
    refine Ev_aload rfl rfl rfl ?_
    refine Ev_getR rfl (by first | rfl | assumption) (by first | exact hρ rfl | assumption) ?_
    refine Ev_aload rfl rfl rfl ?_
    refine Ev_getI rfl (by first | rfl | assumption) ?_
    refine Ev_norm H.1.1 ?_
    refine Ev_iload rfl rfl ?_
    refine Ev_iast rfl (by first | rfl | assumption) (by rw [s1]; exact vp_in_nI (n := ni B) (show ni B < 8 by omega) (by decide)) ?_
    refine Ev_aload rfl rfl rfl ?_
    refine Ev_getR rfl (by first | rfl | assumption) (by first | exact hρ rfl | assumption) ?_
    refine Ev_aload rfl rfl rfl ?_
    refine Ev_getI rfl (by first | rfl | assumption) ?_
    refine Ev_norm (by rw [sR_1 _ _ (by omega)]; exact H.1.1 : _ = nI (ni B)) ?_
    refine Ev_iload rfl rfl ?_
    refine Ev_iast rfl (by first | rfl | assumption) (by rw [s2]; exact vp_in_nI (n := ni B) (show ni B < 8 by omega) (by decide)) ?_
    refine Ev_aload rfl rfl rfl ?_
    refine Ev_getR rfl (by first | rfl | assumption) (by first | exact hρ rfl | assumption) ?_
    refine Ev_aload rfl rfl rfl ?_
    refine Ev_getI rfl (by first | rfl | assumption) ?_
    refine Ev_norm (by rw [sR_1 _ _ (by omega), sR_1 _ _ (by omega)]; exact H.1.1 : _ = nI (ni B)) ?_
    refine Ev_const rfl ?_
    refine Ev_iast rfl (by first | rfl | assumption) (by rw [s3]; exact vp_in_nI (n := ni B) (show ni B < 8 by omega) (by decide)) ?_
    refine Ev_aload rfl rfl rfl ?_
    refine Ev_dup rfl (fun _ q => nomatch q) ?_
    refine Ev_getI rfl (by first | rfl | assumption) ?_
    refine Ev_norm (by rw [sR_1 _ _ (by omega), sR_1 _ _ (by omega), sR_1 _ _ (by omega)]; exact H.1.1 : _ = nI (ni B)) ?_
    refine Ev_const rfl ?_
    refine Ev_iadd rfl ?_
    refine Ev_norm (nI_1 (ni B)) ?_
    refine Ev_putI rfl (by first | rfl | assumption) ⟨rfl, rfl⟩ rfl ?_
    exact Ev_return rfl rfl rfl (by
    rw [nI_clamp (show ni B < 2 ^ 31 by omega)]
    generalize hσ : sI (sI (sI (sI σ (q + 1) _) (q + 2) _) (q + 3) _) q _ = σ2
    have hc : CF (fun k _ => cBq q k) σ σ2 := by
      rw [← hσ]
      exact (((cf_cell _ (by decide)).tr (cf_cell _ (by decide))).tr (cf_cell _ (by decide))).tr (cf_cell (r := 0) _ (by decide))
    have hN : CNew σ2 q (adI B nm dp) := by
      refine H.aI ?_ ?_ ?_ ?_ (fun r hr hr2 => ?_)
      · rw [← hσ, sR_1 _ _ (by omega), sR_1 _ _ (by omega), sR_1 _ _ (by omega), sR_0]
      · rw [← hσ, sR_1 _ _ (by omega), sR_1 _ _ (by omega), sR_0, sR_1 _ _ (by omega)]
      · rw [← hσ, sR_1 _ _ (by omega), sR_0, sR_1 _ _ (by omega), sR_1 _ _ (by omega)]; rfl
      · rw [← hσ, sR_0, sR_1 _ _ (by omega), sR_1 _ _ (by omega), sR_1 _ _ (by omega)]
      · rw [← hσ, sR_1 _ _ (by omega), sR_1 _ _ (by omega), sR_1 _ _ (by omega), sR_1 _ _ (by omega)]
    exact ⟨rfl, rfl, hN.rb (show ni B + 1 ≤ 8 by omega) w6 w16 hf, fun _ => hN, hc⟩)
  · refine T_of rfl ?_
    refine Ev_aload rfl rfl rfl ?_
    refine Ev_getI rfl (by first | rfl | assumption) ?_
    refine Ev_norm H.1.1 ?_
    refine Ev_const rfl ?_
    refine Ev_icmp_ge rfl (fun h6 => ?_) (fun h6 => absurd (nI_le (a := 8) (by omega) (by omega)) h6)
    exact Ev_return rfl rfl rfl ⟨rfl, rfl, H.rb h8 w6 w16 hf, fun z => absurd z hn, CF.rf _ _⟩
theorem t_addBather (d : Nat) {σ : St} {nm : List Nat} {lu wi : Nat} (hq : q = 2 ∨ q = 17) (hρ : RF ρ) (hB : WfB B) (hf : flen B ≤ 1620) (H : CNew σ q B) :
    T l X d 6 [.ref q, .int (nI (n5 nm)), .int (nI lu), .int (nI wi)] 402 402 ρ σ (fun v ρ' σ' => v = none ∧ ρ' = ρ ∧ CRo σ' q ∧ (nb B < 6 → CNew σ' q (adB B nm lu wi)) ∧ CF (fun k _ => cBq q k) σ σ') := by
  obtain ⟨bO, -, ⟨⟨a1, s1, r1⟩, ⟨a2, s2, r2⟩, ⟨a3, s3, r3⟩⟩, -⟩ := bo hq hρ
  have h8 := hB.1.1
  have w6 := hB.1.2.1
  have w16 := hB.1.2.2.2.1
  by_cases hn : nb B < 6
  · refine T_of rfl ?_
    refine Ev_aload rfl rfl rfl ?_
    refine Ev_getI rfl (by first | rfl | assumption) ?_
    refine Ev_norm H.1.2.2.1 ?_
    refine Ev_const rfl ?_
    refine Ev_icmp_ge rfl (fun h6 => absurd h6 (nI_ge (b := 6) (by omega) (by omega))) (fun h6 => ?_)
    refine Ev_aload rfl rfl rfl ?_
    refine Ev_getR rfl (by first | rfl | assumption) (by first | exact hρ rfl | assumption) ?_
    refine Ev_aload rfl rfl rfl ?_
    refine Ev_getI rfl (by first | rfl | assumption) ?_
    refine Ev_norm H.1.2.2.1 ?_
    refine Ev_iload rfl rfl ?_
    refine Ev_iast rfl (by first | rfl | assumption) (by rw [s1]; exact vp_in_nI (n := nb B) (show nb B < 6 by omega) (by decide)) ?_
    refine Ev_aload rfl rfl rfl ?_
    refine Ev_getR rfl (by first | rfl | assumption) (by first | exact hρ rfl | assumption) ?_
    refine Ev_aload rfl rfl rfl ?_
    refine Ev_getI rfl (by first | rfl | assumption) ?_
    refine Ev_norm (by rw [sR_1 _ _ (by omega)]; exact H.1.2.2.1 : _ = nI (nb B)) ?_
    refine Ev_iload rfl rfl ?_
    refine Ev_iast rfl (by first | rfl | assumption) (by rw [s2]; exact vp_in_nI (n := nb B) (show nb B < 6 by omega) (by decide)) ?_
    refine Ev_aload rfl rfl rfl ?_
    refine Ev_getR rfl (by first | rfl | assumption) (by first | exact hρ rfl | assumption) ?_
    refine Ev_aload rfl rfl rfl ?_
    refine Ev_getI rfl (by first | rfl | assumption) ?_
    refine Ev_norm (by rw [sR_1 _ _ (by omega), sR_1 _ _ (by omega)]; exact H.1.2.2.1 : _ = nI (nb B)) ?_
    refine Ev_iload rfl rfl ?_
    refine Ev_iast rfl (by first | rfl | assumption) (by rw [s3]; exact vp_in_nI (n := nb B) (show nb B < 6 by omega) (by decide)) ?_
    refine Ev_aload rfl rfl rfl ?_
    refine Ev_dup rfl (fun _ q => nomatch q) ?_
    refine Ev_getI rfl (by first | rfl | assumption) ?_
    refine Ev_norm (by rw [sR_1 _ _ (by omega), sR_1 _ _ (by omega), sR_1 _ _ (by omega)]; exact H.1.2.2.1 : _ = nI (nb B)) ?_
    refine Ev_const rfl ?_
    refine Ev_iadd rfl ?_
    refine Ev_norm (nI_1 (nb B)) ?_
    refine Ev_putI rfl (by first | rfl | assumption) ⟨rfl, rfl⟩ rfl ?_
    exact Ev_return rfl rfl rfl (by
    rw [nI_clamp (show nb B < 2 ^ 31 by omega)]
    generalize hσ : sI (sI (sI (sI σ (q + 5) _) (q + 6) _) (q + 7) _) q _ = σ2
    have hc : CF (fun k _ => cBq q k) σ σ2 := by
      rw [← hσ]
      exact (((cf_cell _ (by decide)).tr (cf_cell _ (by decide))).tr (cf_cell _ (by decide))).tr (cf_cell (r := 0) _ (by decide))
    have hN : CNew σ2 q (adB B nm lu wi) := by
      refine H.aB ?_ ?_ ?_ ?_ (fun r hr hr3 hr2 => ?_)
      · rw [← hσ, sR_1 _ _ (by omega), sR_1 _ _ (by omega), sR_1 _ _ (by omega), sR_0]
      · rw [← hσ, sR_1 _ _ (by omega), sR_1 _ _ (by omega), sR_0, sR_1 _ _ (by omega)]
      · rw [← hσ, sR_1 _ _ (by omega), sR_0, sR_1 _ _ (by omega), sR_1 _ _ (by omega)]
      · rw [← hσ, sR_0, sR_1 _ _ (by omega), sR_1 _ _ (by omega), sR_1 _ _ (by omega)]
      · rw [← hσ, sR_1 _ _ (by omega), sR_1 _ _ (by omega), sR_1 _ _ (by omega), sR_1 _ _ (by omega)]
    exact ⟨rfl, rfl, hN.rb h8 (show nb B + 1 ≤ 6 by omega) w16 hf, fun _ => hN, hc⟩)
  · refine T_of rfl ?_
    refine Ev_aload rfl rfl rfl ?_
    refine Ev_getI rfl (by first | rfl | assumption) ?_
    refine Ev_norm H.1.2.2.1 ?_
    refine Ev_const rfl ?_
    refine Ev_icmp_ge rfl (fun h6 => ?_) (fun h6 => absurd (nI_le (a := 6) (by omega) (by omega)) h6)
    exact Ev_return rfl rfl rfl ⟨rfl, rfl, H.rb h8 w6 w16 hf, fun z => absurd z hn, CF.rf _ _⟩
theorem t_addRow (d : Nat) {σ : St} {x y : Int32} (hq : q = 2 ∨ q = 17) (hρ : RF ρ) (hB : WfB B) (hf : flen B ≤ 1620) (H : CNew σ q B) :
    T l X d 7 [.ref q, .int x, .int y] 402 402 ρ σ (fun v ρ' σ' => v = none ∧ ρ' = ρ ∧ CRo σ' q ∧ (∀ b i, np B < 16 → x = nI b → y = nI i → CNew σ' q (adP B b i)) ∧ CF (fun k _ => cBq q k) σ σ') := by
  obtain ⟨bO, -, -, ⟨⟨a1, s1, r1⟩, ⟨a2, s2, r2⟩⟩, -⟩ := bo hq hρ
  have h8 := hB.1.1
  have w6 := hB.1.2.1
  have w16 := hB.1.2.2.2.1
  have hN := H
  obtain ⟨⟨g0, g1, g2, g3, g4⟩, gi, gb, gp, gf, gs⟩ := H
  by_cases hn : np B < 16
  · refine T_of rfl ?_
    refine Ev_aload rfl rfl rfl ?_
    refine Ev_getI rfl (by first | rfl | assumption) ?_
    refine Ev_norm g3 ?_
    refine Ev_const rfl ?_
    refine Ev_icmp_ge rfl (fun h6 => absurd h6 (nI_ge (b := 16) (by omega) (by omega))) (fun h6 => ?_)
    refine Ev_aload rfl rfl rfl ?_
    refine Ev_getR rfl (by first | rfl | assumption) (by first | exact hρ rfl | assumption) ?_
    refine Ev_aload rfl rfl rfl ?_
    refine Ev_getI rfl (by first | rfl | assumption) ?_
    refine Ev_norm g3 ?_
    refine Ev_iload rfl rfl ?_
    refine Ev_iast rfl (by first | rfl | assumption) (by rw [s1]; exact vp_in_nI (n := np B) (show np B < 16 by omega) (by decide)) ?_
    refine Ev_aload rfl rfl rfl ?_
    refine Ev_getR rfl (by first | rfl | assumption) (by first | exact hρ rfl | assumption) ?_
    refine Ev_aload rfl rfl rfl ?_
    refine Ev_getI rfl (by first | rfl | assumption) ?_
    refine Ev_norm (by rw [sR_1 _ _ (by omega)]; exact g3 : _ = nI (np B)) ?_
    refine Ev_iload rfl rfl ?_
    refine Ev_iast rfl (by first | rfl | assumption) (by rw [s2]; exact vp_in_nI (n := np B) (show np B < 16 by omega) (by decide)) ?_
    refine Ev_aload rfl rfl rfl ?_
    refine Ev_dup rfl (fun _ q => nomatch q) ?_
    refine Ev_getI rfl (by first | rfl | assumption) ?_
    refine Ev_norm (by rw [sR_1 _ _ (by omega), sR_1 _ _ (by omega)]; exact g3 : _ = nI (np B)) ?_
    refine Ev_const rfl ?_
    refine Ev_iadd rfl ?_
    refine Ev_norm (nI_1 (np B)) ?_
    refine Ev_putI rfl (by first | rfl | assumption) ⟨rfl, rfl⟩ rfl ?_
    exact Ev_return rfl rfl rfl (by
    rw [nI_clamp (show np B < 2 ^ 31 by omega)]
    generalize hσ : sI (sI (sI σ (q + 8) _) (q + 9) _) q _ = σ2
    have hc : CF (fun k _ => cBq q k) σ σ2 := by
      rw [← hσ]
      exact ((cf_cell _ (by decide)).tr (cf_cell _ (by decide))).tr (cf_cell (r := 0) _ (by decide))
    have e0 : σ2.1 q = upd (σ.1 q) 13 (nI (np B + 1)) := by rw [← hσ, sR_0, sR_1 _ _ (by omega), sR_1 _ _ (by omega)]
    have er : ∀ r, 1 ≤ r → (r < 8 ∨ 9 < r) → r ≤ 14 → σ2.1 (q + r) = σ.1 (q + r) := fun r hr hr3 hr2 => by rw [← hσ, sR_1 _ _ (by omega), sR_1 _ _ (by omega), sR_1 _ _ (by omega)]
    refine ⟨rfl, rfl, ⟨⟨ni B, h8, by rw [e0, pk_un (by decide)]; exact g0⟩, ⟨nb B, w6, by rw [e0, pk_un (by decide)]; exact g2⟩, ⟨np B + 1, hn, by rw [e0, pk_us]⟩, ⟨flen B, hf, by rw [er 10 (by decide) (by decide) (by decide)]; exact gs⟩⟩, fun b i _ hx hy => ?_, hc⟩
    subst hx hy
    refine hN.aP ?_ ?_ e0 er
    · rw [← hσ, sR_1 _ _ (by omega), sR_1 _ _ (by omega), sR_0]
    · rw [← hσ, sR_1 _ _ (by omega), sR_0, sR_1 _ _ (by omega)])
  · refine T_of rfl ?_
    refine Ev_aload rfl rfl rfl ?_
    refine Ev_getI rfl (by first | rfl | assumption) ?_
    refine Ev_norm g3 ?_
    refine Ev_const rfl ?_
    refine Ev_icmp_ge rfl (fun h6 => ?_) (fun h6 => absurd (nI_le (a := 16) (by omega) (by omega)) h6)
    exact Ev_return rfl rfl rfl ⟨rfl, rfl, hN.rb h8 w6 w16 hf, fun _ _ z => absurd z hn, CF.rf _ _⟩
/-- what a statement leaves -/
def StC (U : Tx) (q : Nat) (ρ : Rf) (σ : St) (y : Rdg × Bh) : Po := fun v ρ' σ' => v = none ∧ ρ' = ρ ∧ CTt σ' U y.1 ∧ CRo σ' q ∧ (isOk y.1 = true → CNew σ' q y.2) ∧ CF (cRb q) σ σ'
theorem t_readIdea (d : Nat) {σ : St} {s : Rdg} {a : Nat} (hq : q = 2 ∨ q = 17) (hρ : RF ρ) (hb : ρ 317 2 = some q) (hT : TxW U) (hB : WfB B) (hf : flen B ≤ 1620) (H : CNew σ q B) (Ht : CTe σ U s) :
    T l X (d + 8) 85 [.ref 317, .int (nI a)] 402 402 ρ σ (StC U q ρ σ (idR U a (s, B))) := by
  have bO := (bo hq hρ).1
  have h8 := hB.1.1
  refine T_of rfl ?_
  refine Ev_aload rfl rfl rfl ?_
  refine Ev_aload rfl rfl rfl ?_
  refine Ev_getR rfl (by first | rfl | assumption) hb ?_
  refine Ev_getI rfl (by first | rfl | assumption) ?_
  refine Ev_norm H.1.1 ?_
  refine Ev_const rfl ?_
  refine Ev_iload rfl rfl ?_
  refine Ev_callV rfl rfl rfl rfl rfl (same_n 402) (t_askRoom _ (n := ni B) (most := 8) (a := a) hρ (by omega) (by decide) Ht) ?_
  rintro v11 ρ11 σ11 ⟨rfl, e11, s11, c11⟩
  obtain rfl := e11.symm
  refine Ev_aload rfl rfl rfl ?_
  refine Ev_callV rfl rfl rfl rfl rfl (same_n 402) (t_newName _ hq hρ hb hT hB (H.tt hq c11) s11.t) ?_
  rintro v15 ρ15 σ15 ⟨rfl, e15, s15, n15, c15⟩
  obtain rfl := e15.symm
  refine Ev_istore rfl ?_
  refine Ev_aload rfl rfl rfl ?_
  refine Ev_getR rfl (by first | rfl | assumption) (hρ _ _ _ rfl) ?_
  refine Ev_const rfl ?_
  refine Ev_callV rfl rfl rfl rfl rfl (same_n 402) (t_expW _ (i := 1) hρ hT (by decide) s15.t) ?_
  rintro v26 ρ26 σ26 ⟨rfl, e26, s26, c26⟩
  obtain rfl := e26.symm
  rw [kw_2] at s26
  have s26 : CTe σ26 U (idB U a (s, B)) := s26
  refine Ev_aload rfl rfl rfl ?_
  refine Ev_getR rfl (by first | rfl | assumption) hb ?_
  refine Ev_iload rfl rfl ?_
  refine Ev_aload rfl rfl rfl ?_
  refine Ev_getR rfl (by first | rfl | assumption) (hρ _ _ _ rfl) ?_
  refine Ev_const rfl ?_
  refine Ev_callV rfl rfl rfl rfl rfl (same_n 402) (t_askNumber _ (most := 9) hρ hT (by decide) s26.t) ?_
  rintro v40 ρ40 σ40 ⟨rfl, e40, s40, c40⟩
  obtain rfl := e40.symm
  refine Ev_callV rfl rfl rfl bO rfl (same_n 402) (t_addIdea _ (nm := vNm U (idS a (s, B))) hq hρ hB hf ((((H.tt hq c11).tn hq c15).tt hq c26).tt hq c40)) ?_
  rintro v43 ρ43 σ43 ⟨rfl, e43, o42, n42, c43⟩
  obtain rfl := e43.symm
  exact Ev_return rfl rfl rfl (by
  refine ⟨rfl, rfl, (s40.bq hq c43).t, o42, fun z => n42 ?_, (((cTt_b c11).tr (cTn_b c15)).tr (cTt_b c26)).tr ((cTt_b c40).tr (cB_b c43))⟩
  obtain ⟨z1, l1⟩ := aN_ok z
  obtain ⟨z2, l2⟩ := aW_ok z1
  obtain ⟨z3, e3⟩ := nwN_ok z2
  exact (room_ok (aM_ok z3).1).2)
theorem t_readBather (d : Nat) {σ : St} {s : Rdg} {a : Nat} (hq : q = 2 ∨ q = 17) (hρ : RF ρ) (hb : ρ 317 2 = some q) (hT : TxW U) (hB : WfB B) (hf : flen B ≤ 1620) (H : CNew σ q B) (Ht : CTe σ U s) :
    T l X (d + 8) 87 [.ref 317, .int (nI a)] 402 402 ρ σ (StC U q ρ σ (btR U a (s, B))) := by
  have bO := (bo hq hρ).1
  have w6 := hB.1.2.1
  refine T_of rfl ?_
  refine Ev_aload rfl rfl rfl ?_
  refine Ev_aload rfl rfl rfl ?_
  refine Ev_getR rfl (by first | rfl | assumption) hb ?_
  refine Ev_getI rfl (by first | rfl | assumption) ?_
  refine Ev_norm H.1.2.2.1 ?_
  refine Ev_const rfl ?_
  refine Ev_iload rfl rfl ?_
  refine Ev_callV rfl rfl rfl rfl rfl (same_n 402) (t_askRoom _ (n := nb B) (most := 6) (a := a) hρ (by omega) (by decide) Ht) ?_
  rintro v11 ρ11 σ11 ⟨rfl, e11, s11, c11⟩
  obtain rfl := e11.symm
  refine Ev_aload rfl rfl rfl ?_
  refine Ev_callV rfl rfl rfl rfl rfl (same_n 402) (t_newName _ hq hρ hb hT hB (H.tt hq c11) s11.t) ?_
  rintro v15 ρ15 σ15 ⟨rfl, e15, s15, n15, c15⟩
  obtain rfl := e15.symm
  refine Ev_istore rfl ?_
  refine Ev_aload rfl rfl rfl ?_
  refine Ev_getR rfl (by first | rfl | assumption) (hρ _ _ _ rfl) ?_
  refine Ev_const rfl ?_
  refine Ev_callV rfl rfl rfl rfl rfl (same_n 402) (t_expW _ (i := 5) hρ hT (by decide) s15.t) ?_
  rintro v26 ρ26 σ26 ⟨rfl, e26, s26, c26⟩
  obtain rfl := e26.symm
  rw [kw_6] at s26
  have s26 : CTe σ26 U (btB U a (s, B)) := s26
  refine Ev_aload rfl rfl rfl ?_
  refine Ev_getR rfl (by first | rfl | assumption) (hρ _ _ _ rfl) ?_
  refine Ev_const rfl ?_
  refine Ev_callV rfl rfl rfl rfl rfl (same_n 402) (t_askNumber _ (most := 9) hρ hT (by decide) s26.t) ?_
  rintro v35 ρ35 σ35 ⟨rfl, e35, s35, c35⟩
  obtain rfl := e35.symm
  refine Ev_istore rfl ?_
  refine Ev_aload rfl rfl rfl ?_
  refine Ev_getR rfl (by first | rfl | assumption) (hρ _ _ _ rfl) ?_
  refine Ev_const rfl ?_
  refine Ev_callV rfl rfl rfl rfl rfl (same_n 402) (t_expW _ (i := 6) hρ hT (by decide) s35.t) ?_
  rintro v46 ρ46 σ46 ⟨rfl, e46, s46, c46⟩
  obtain rfl := e46.symm
  rw [kw_7] at s46
  have s46 : CTe σ46 U (btD U a (s, B)) := s46
  refine Ev_aload rfl rfl rfl ?_
  refine Ev_getR rfl (by first | rfl | assumption) hb ?_
  refine Ev_iload rfl rfl ?_
  refine Ev_iload rfl rfl ?_
  refine Ev_aload rfl rfl rfl ?_
  refine Ev_getR rfl (by first | rfl | assumption) (hρ _ _ _ rfl) ?_
  refine Ev_const rfl ?_
  refine Ev_callV rfl rfl rfl rfl rfl (same_n 402) (t_askNumber _ (most := 9) hρ hT (by decide) s46.t) ?_
  rintro v61 ρ61 σ61 ⟨rfl, e61, s61, c61⟩
  obtain rfl := e61.symm
  refine Ev_callV rfl rfl rfl bO rfl (same_n 402) (t_addBather _ (nm := vNm U (btS a (s, B))) hq hρ hB hf ((((((H.tt hq c11).tn hq c15).tt hq c26).tt hq c35).tt hq c46).tt hq c61)) ?_
  rintro v64 ρ64 σ64 ⟨rfl, e64, o62, n62, c64⟩
  obtain rfl := e64.symm
  exact Ev_return rfl rfl rfl (by
  refine ⟨rfl, rfl, (s61.bq hq c64).t, o62, fun z => n62 ?_, ((((cTt_b c11).tr (cTn_b c15)).tr (cTt_b c26)).tr ((cTt_b c35).tr (cTt_b c46))).tr ((cTt_b c61).tr (cB_b c64))⟩
  obtain ⟨z1, l1⟩ := aN_ok z
  obtain ⟨z2, l2⟩ := aW_ok z1
  obtain ⟨z3, l3⟩ := aN_ok z2
  obtain ⟨z4, l4⟩ := aW_ok z3
  obtain ⟨z5, e5⟩ := nwN_ok z4
  exact (room_ok (aM_ok z5).1).2)
theorem t_readRow (d : Nat) {σ : St} {s : Rdg} {a : Nat} (hq : q = 2 ∨ q = 17) (hρ : RF ρ) (hb : ρ 317 2 = some q) (hT : TxW U) (hB : WfB B) (hf : flen B ≤ 1620) (H : CNew σ q B) (Ht : CTe σ U s) :
    T l X (d + 8) 88 [.ref 317, .int (nI a)] 402 402 ρ σ (StC U q ρ σ (plR U a (s, B))) := by
  have bO := (bo hq hρ).1
  have w16 := hB.1.2.2.2.1
  refine T_of rfl ?_
  refine Ev_aload rfl rfl rfl ?_
  refine Ev_aload rfl rfl rfl ?_
  refine Ev_getR rfl (by first | rfl | assumption) hb ?_
  refine Ev_getI rfl (by first | rfl | assumption) ?_
  refine Ev_norm H.1.2.2.2.1 ?_
  refine Ev_const rfl ?_
  refine Ev_iload rfl rfl ?_
  refine Ev_callV rfl rfl rfl rfl rfl (same_n 402) (t_askRoom _ (n := np B) (most := 16) (a := a) hρ (by omega) (by decide) Ht) ?_
  rintro v11 ρ11 σ11 ⟨rfl, e11, s11, c11⟩
  obtain rfl := e11.symm
  refine Ev_aload rfl rfl rfl ?_
  refine Ev_callV rfl rfl rfl rfl rfl (same_n 402) (t_toldBather _ hq hρ hb hT hB (H.tt hq c11) s11.t) ?_
  rintro v15 ρ15 σ15 ⟨rfl, e15, s15, c15⟩
  obtain rfl := e15.symm
  refine Ev_istore rfl ?_
  refine Ev_aload rfl rfl rfl ?_
  refine Ev_getR rfl (by first | rfl | assumption) (hρ _ _ _ rfl) ?_
  refine Ev_const rfl ?_
  refine Ev_callV rfl rfl rfl rfl rfl (same_n 402) (t_expW _ (i := 8) hρ hT (by decide) s15.t) ?_
  rintro v26 ρ26 σ26 ⟨rfl, e26, s26, c26⟩
  obtain rfl := e26.symm
  rw [kw_9] at s26
  have s26 : CTe σ26 U (plB U a (s, B)) := s26
  refine Ev_aload rfl rfl rfl ?_
  refine Ev_getR rfl (by first | rfl | assumption) hb ?_
  refine Ev_iload rfl rfl ?_
  refine Ev_aload rfl rfl rfl ?_
  refine Ev_callV rfl rfl rfl rfl rfl (same_n 402) (t_toldIdea _ hq hρ hb hT hB (((H.tt hq c11).tn hq c15).tt hq c26) s26.t) ?_
  rintro v35 ρ35 σ35 ⟨rfl, e35, s35, n34, c35⟩
  obtain rfl := e35.symm
  refine Ev_callV rfl rfl rfl bO rfl (same_n 402) (t_addRow _ hq hρ hB hf ((((H.tt hq c11).tn hq c15).tt hq c26).tn hq c35)) ?_
  rintro v38 ρ38 σ38 ⟨rfl, e38, o37, n37, c38⟩
  obtain rfl := e38.symm
  exact Ev_return rfl rfl rfl (by
  refine ⟨rfl, rfl, (s35.bq hq c38).t, o37, fun z => ?_, (((cTt_b c11).tr (cTn_b c15)).tr (cTt_b c26)).tr ((cTn_b c35).tr (cB_b c38))⟩
  obtain ⟨z1, e1, r1⟩ := tdN_ok z
  obtain ⟨z2, l2⟩ := aW_ok (aM_ok z1).1
  obtain ⟨z3, e3, r3⟩ := tdN_ok z2
  exact n37 _ _ (room_ok (aM_ok z3).1).2 (ixV_y r3) (ixV_y r1))
theorem t_readNeed (d : Nat) {σ : St} {s : Rdg} {a : Nat} (hq : q = 2 ∨ q = 17) (hρ : RF ρ) (hb : ρ 317 2 = some q) (hT : TxW U) (hB : WfB B) (hf : flen B ≤ 1620) (H : CNew σ q B) (Ht : CTe σ U s) :
    T l X (d + 8) 86 [.ref 317, .int (nI a)] 402 402 ρ σ (StC U q ρ σ (ndR U a (s, B))) := by
  obtain ⟨bO, ⟨-, -, ⟨a3, s3, r3⟩, -⟩, -⟩ := bo hq hρ
  have h8 := hB.1.1
  have w6 := hB.1.2.1
  have w16 := hB.1.2.2.2.1
  have hn16 : nn B ≤ 16 := hB.1.2.2.1
  have eC : ndC U a (s, B) = tdN U (ni B) (nmI B) (ndB U a (s, B)) := rfl
  have eX : ndX U a (s, B) = fnd (ni B) (nmI B) (vNm U (ndS a (s, B))) := rfl
  have eY : ndY U a (s, B) = fnd (ni B) (nmI B) (vNm U (ndB U a (s, B))) := rfl
  have eA : ndA U a (s, B) = tdN U (ni B) (nmI B) (ndS a (s, B)) := rfl
  have eB : ndB U a (s, B) = aWd U (kw 4) (ndA U a (s, B)) := rfl
  have eS : ndS a (s, B) = roomS (nn B) 16 a s := rfl
  unfold ndR
  have go : ∀ Q : Po, (∀ (σ2 : St), CTe σ2 U (ndC U a (s, B)) → CNew σ2 q B → (isOk (ndC U a (s, B)) = true → σ2.1 316 5 = nI (rpos (lkS U (ndB U a (s, B))))) → CF (cRb q) σ σ2 → Ev l X (d + 8) 86 34 [.ref 317, .int (nI a), .int (ixV (ni B) (nmI B) (vNm U (ndS a (s, B)))), .int (ixV (ni B) (nmI B) (vNm U (ndB U a (s, B))))] [] 402 402 402 ρ σ2 Q) → Ev l X (d + 8) 86 0 [.ref 317, .int (nI a), .float 0, .float 0] [] 402 402 402 ρ σ Q := by
    intro Q hQ
    refine Ev_aload rfl rfl rfl ?_
    refine Ev_aload rfl rfl rfl ?_
    refine Ev_getR rfl (by first | rfl | assumption) hb ?_
    refine Ev_getI rfl (by first | rfl | assumption) ?_
    refine Ev_norm H.1.2.1 ?_
    refine Ev_const rfl ?_
    refine Ev_iload rfl rfl ?_
    refine Ev_callV rfl rfl rfl rfl rfl (same_n 402) (t_askRoom _ (n := nn B) (most := 16) (a := a) hρ (by omega) (by decide) Ht) ?_
    rintro v11 ρ11 σ11 ⟨rfl, e11, s11, c11⟩
    obtain rfl := e11.symm
    rw [← eS] at s11
    refine Ev_aload rfl rfl rfl ?_
    refine Ev_callV rfl rfl rfl rfl rfl (same_n 402) (t_toldIdea _ hq hρ hb hT hB (H.tt hq c11) s11.t) ?_
    rintro v15 ρ15 σ15 ⟨rfl, e15, s15, n15, c15⟩
    obtain rfl := e15.symm
    rw [← eA] at s15
    refine Ev_istore rfl ?_
    refine Ev_aload rfl rfl rfl ?_
    refine Ev_getR rfl (by first | rfl | assumption) (hρ _ _ _ rfl) ?_
    refine Ev_const rfl ?_
    refine Ev_callV rfl rfl rfl rfl rfl (same_n 402) (t_expW _ (i := 3) hρ hT (by decide) s15.t) ?_
    rintro v26 ρ26 σ26 ⟨rfl, e26, s26, c26⟩
    obtain rfl := e26.symm
    rw [kw_4, ← eB] at s26
    refine Ev_aload rfl rfl rfl ?_
    refine Ev_callV rfl rfl rfl rfl rfl (same_n 402) (t_toldIdea _ hq hρ hb hT hB (((H.tt hq c11).tn hq c15).tt hq c26) s26.t) ?_
    rintro v30 ρ30 σ30 ⟨rfl, e30, s30, n29, c30⟩
    obtain rfl := e30.symm
    rw [← eC] at s30 n29
    refine Ev_istore rfl ?_
    exact hQ σ30 s30 ((((H.tt hq c11).tn hq c15).tt hq c26).tn hq c30) n29 (((cTt_b c11).tr (cTn_b c15)).tr ((cTt_b c26).tr (cTn_b c30)))
  refine T_of rfl ?_
  refine go _ (fun σ2 s2 H2 n2 c2 => ?_)
  cases hok : isOk (ndC U a (s, B)) with
  | false =>
    obtain ⟨z, hz, hz0⟩ := s2.ftN hok
    rw [if_neg (fun z => by cases z.1)]
    refine Ev_aload rfl rfl rfl ?_
    refine Ev_getR rfl (by first | rfl | assumption) (hρ _ _ _ rfl) ?_
    refine Ev_getI rfl (by first | rfl | assumption) ?_
    refine Ev_norm hz ?_
    refine Ev_if_ne rfl (fun h41 => ?_) (fun h41 => absurd hz0 h41)
    exact Ev_return rfl rfl rfl ⟨rfl, rfl, s2.t, H2.rb h8 w6 w16 hf, (fun z => by have z : isOk (ndC U a (s, B)) = true := z; rw [hok] at z; cases z), c2⟩
  | true =>
    obtain ⟨z1, e1, r1⟩ := tdN_ok (by rw [← eC]; exact hok : isOk (tdN U (ni B) (nmI B) (ndB U a (s, B))) = true)
    obtain ⟨z2, l2⟩ := aW_ok (by rw [← eB]; exact (aM_ok z1).1 : isOk (aWd U (kw 4) (ndA U a (s, B))) = true)
    obtain ⟨z3, e3, r3'⟩ := tdN_ok (by rw [← eA]; exact z2 : isOk (tdN U (ni B) (nmI B) (ndS a (s, B))) = true)
    have hnn : nn B < 16 := (room_ok (by rw [← eS]; exact (aM_ok z3).1)).2
    have hnp := n2 hok
    rw [ixV_y r3', ixV_y r1, ← eX, ← eY]
    rw [← eX] at r3'
    rw [← eY] at r1
    generalize ndC U a (s, B) = C at *
    generalize ndX U a (s, B) = x1 at *
    generalize ndY U a (s, B) = y1 at *
    have hz := s2.ftO hok
    have hnee : nee B y1 < 256 := (hB.2.1.1 y1 r1).2
    have hsh := sh_8 hnee (show x1 < 8 by omega)
    have hbit : nee B y1 / 2 ^ x1 % 2 < 2 := Nat.mod_lt _ (by decide)
    by_cases hc : y1 ≤ x1 ∨ nee B y1 / 2 ^ x1 % 2 = 1
    · rw [if_pos ⟨rfl, hc⟩]
      have fin : Ev l X (d + 8) 86 76 [.ref 317, .int (nI a), .int (nI x1), .int (nI y1)] [] 402 402 402 ρ σ2 (StC U q ρ σ (flP 3 (rpos (lkS U (ndB U a (s, B)))) C, B)) := by
        refine Ev_aload rfl rfl rfl ?_
        refine Ev_getR rfl (by first | rfl | assumption) (hρ _ _ _ rfl) ?_
        refine Ev_const rfl ?_
        refine Ev_aload rfl rfl rfl ?_
        refine Ev_getR rfl (by first | rfl | assumption) (hρ _ _ _ rfl) ?_
        refine Ev_getI rfl (by first | rfl | assumption) ?_
        refine Ev_norm hnp ?_
        refine Ev_callV rfl rfl rfl rfl rfl (same_n 402) (t_fail _ (w := 3) (k := rpos (lkS U (ndB U a (s, B)))) s2 (by decide) (fun _ _ => rfl)) ?_
        rintro v88 ρ88 σ88 ⟨rfl, e88, s88, c88⟩
        obtain rfl := e88.symm
        exact Ev_return rfl rfl rfl ⟨rfl, rfl, s88.t, (H2.rb h8 w6 w16 hf).tt hq c88, (fun z => by have z : isOk (flP 3 _ C) = true := z; rw [flP_no] at z; cases z), c2.tr (cTt_b c88)⟩
      refine Ev_aload rfl rfl rfl ?_
      refine Ev_getR rfl (by first | rfl | assumption) (hρ _ _ _ rfl) ?_
      refine Ev_getI rfl (by first | rfl | assumption) ?_
      refine Ev_norm hz ?_
      refine Ev_if_ne rfl (fun h41 => absurd rfl h41) (fun h41 => ?_)
      refine Ev_iload rfl rfl ?_
      refine Ev_const rfl ?_
      refine Ev_icmp_eq rfl (fun h46 => absurd h46 (nI_m1 (by omega))) (fun h46 => ?_)
      refine Ev_iload rfl rfl ?_
      refine Ev_const rfl ?_
      refine Ev_icmp_ne rfl (fun h51 => ?_) (fun h51 => absurd (nI_m1 (by omega)) h51)
      refine Ev_iload rfl rfl ?_
      refine Ev_iload rfl rfl ?_
      refine Ev_icmp_le rfl (fun h57 => ?_) (fun h57 => ?_)
      · exact fin
      · refine Ev_aload rfl rfl rfl ?_
        refine Ev_getR rfl (by first | rfl | assumption) hb ?_
        refine Ev_getR rfl (by first | rfl | assumption) (by first | exact hρ rfl | assumption) ?_
        refine Ev_iload rfl rfl ?_
        refine Ev_iald rfl (by first | rfl | assumption) (by rw [s3]; exact vp_in_nI (n := y1) (show y1 < 8 by omega) (by decide)) ?_
        refine Ev_norm (by rw [nI_clamp (by omega)]; exact (H2.2.1 y1 r1).2.2 : _ = nI (nee B y1)) ?_
        refine Ev_iload rfl rfl ?_
        refine Ev_ishr rfl ?_
        refine Ev_const rfl ?_
        refine Ev_iand rfl ?_
        refine Ev_norm hsh ?_
        refine Ev_if_eq rfl (fun h73 => absurd h73 (by
        rcases hc with z | z
        · exact absurd (nI_le z (by omega)) h57
        · rw [z]; decide)) (fun h73 => ?_)
        exact fin
    · rw [if_neg (fun z => hc z.2)]
      have hlt : x1 < y1 := by omega
      have hb0 : nee B y1 / 2 ^ x1 % 2 = 0 := by omega
      refine Ev_aload rfl rfl rfl ?_
      refine Ev_getR rfl (by first | rfl | assumption) (hρ _ _ _ rfl) ?_
      refine Ev_getI rfl (by first | rfl | assumption) ?_
      refine Ev_norm hz ?_
      refine Ev_if_ne rfl (fun h41 => absurd rfl h41) (fun h41 => ?_)
      refine Ev_iload rfl rfl ?_
      refine Ev_const rfl ?_
      refine Ev_icmp_eq rfl (fun h46 => absurd h46 (nI_m1 (by omega))) (fun h46 => ?_)
      refine Ev_iload rfl rfl ?_
      refine Ev_const rfl ?_
      refine Ev_icmp_ne rfl (fun h51 => ?_) (fun h51 => absurd (nI_m1 (by omega)) h51)
      refine Ev_iload rfl rfl ?_
      refine Ev_iload rfl rfl ?_
      refine Ev_icmp_le rfl (fun h57 => absurd ((nI_leI (by omega) (by omega)).mp h57) (by omega)) (fun h57 => ?_)
      refine Ev_aload rfl rfl rfl ?_
      refine Ev_getR rfl (by first | rfl | assumption) hb ?_
      refine Ev_getR rfl (by first | rfl | assumption) (by first | exact hρ rfl | assumption) ?_
      refine Ev_iload rfl rfl ?_
      refine Ev_iald rfl (by first | rfl | assumption) (by rw [s3]; exact vp_in_nI (n := y1) (show y1 < 8 by omega) (by decide)) ?_
      refine Ev_norm (by rw [nI_clamp (by omega)]; exact (H2.2.1 y1 r1).2.2 : _ = nI (nee B y1)) ?_
      refine Ev_iload rfl rfl ?_
      refine Ev_ishr rfl ?_
      refine Ev_const rfl ?_
      refine Ev_iand rfl ?_
      refine Ev_norm hsh ?_
      refine Ev_if_eq rfl (fun h73 => ?_) (fun h73 => absurd (show nI (nee B y1 / 2 ^ x1 % 2) = 0 by rw [hb0]; rfl) h73)
      refine Ev_aload rfl rfl rfl ?_
      refine Ev_getR rfl (by first | rfl | assumption) hb ?_
      refine Ev_getR rfl (by first | rfl | assumption) (by first | exact hρ rfl | assumption) ?_
      refine Ev_iload rfl rfl ?_
      refine Ev_dup2 rfl (fun _ q => nomatch q) (fun _ q => nomatch q) ?_
      refine Ev_iald rfl (by first | rfl | assumption) (by rw [s3]; exact vp_in_nI (n := y1) (show y1 < 8 by omega) (by decide)) ?_
      refine Ev_norm (by rw [nI_clamp (by omega)]; exact (H2.2.1 y1 r1).2.2 : _ = nI (nee B y1)) ?_
      refine Ev_const rfl ?_
      refine Ev_iload rfl rfl ?_
      refine Ev_ishl rfl ?_
      refine Ev_norm (shl_1 x1 (by omega)) ?_
      refine Ev_ior rfl ?_
      refine Ev_norm (nI_or (nee B y1) (2 ^ x1)) ?_
      refine Ev_iast rfl (by first | rfl | assumption) (by rw [s3]; exact vp_in_nI (n := y1) (show y1 < 8 by omega) (by decide)) ?_
      refine Ev_aload rfl rfl rfl ?_
      refine Ev_getR rfl (by first | rfl | assumption) hb ?_
      refine Ev_dup rfl (fun _ q => nomatch q) ?_
      refine Ev_getI rfl (by first | rfl | assumption) ?_
      refine Ev_norm (by rw [sR_1 _ _ (by omega)]; exact H2.1.2.1 : _ = nI (nn B)) ?_
      refine Ev_const rfl ?_
      refine Ev_iadd rfl ?_
      refine Ev_norm (nI_1 (nn B)) ?_
      refine Ev_putI rfl (by first | rfl | assumption) ⟨rfl, rfl⟩ rfl ?_
      exact Ev_return rfl rfl rfl (by
      rw [nI_clamp (show y1 < 2 ^ 31 by omega)]
      generalize hσ : sI (sI σ2 (q + 3) _) q _ = σ3
      have hcf : CF (fun k _ => cBq q k) σ2 σ3 := by
        rw [← hσ]
        exact (cf_cell _ (by decide)).tr (cf_cell (r := 0) _ (by decide))
      have hN : CNew σ3 q (adN B x1 y1) := by
        refine H2.aN ?_ ?_ (fun r hr hr3 hr2 => ?_)
        · rw [← hσ, sR_1 _ _ (by omega), sR_0]
        · rw [← hσ, sR_0, sR_1 _ _ (by omega)]
        · rw [← hσ, sR_1 _ _ (by omega), sR_1 _ _ (by omega)]
      exact ⟨rfl, rfl, (s2.bq hq hcf).t, hN.rb h8 w6 w16 hf, fun _ => hN, c2.tr (cB_b hcf)⟩)
end S88zzc
