/-! A beach read by the class: a formula, a statement. -/
/-- what a statement leaves -/
def StF (U : Tx) (q : Nat) (ρ : Rf) (σ : St) (y : Rdg × Bh) : Po := fun v ρ' σ' => v = none ∧ (RF ρ' ∧ ∀ k j, k ≠ 318 → ρ' k j = ρ k j) ∧ CTt σ' U y.1 ∧ CRo σ' q ∧ (isOk y.1 = true → CNew σ' q y.2) ∧ CF (cRb q) σ σ'
section S88zze
variable {l : Launch} {X : Cx} {ρ : Rf} {U : Tx} {q : Nat} {B : Bh}
theorem StC.f {σ : St} {y : Rdg × Bh} {v : Option Value} {ρ' : Rf} {σ' : St} (hρ : RF ρ) (h : StC U q ρ σ y v ρ' σ') : StF U q ρ σ y v ρ' σ' := ⟨h.1, by rw [h.2.1]; exact ⟨hρ, fun _ _ _ => rfl⟩, h.2.2⟩
theorem cFo_q {q bs a b : Nat} (hq : q = 2 ∨ q = 17) (h : cRb q a b = false) : cFo (q + 10) bs a b = false := by
  obtain ⟨h1, h2, h3⟩ := cRb_f h
  have h4 := cBq_f h3
  unfold cFo
  rw [cTt_n h1, cOr_f (by omega) (by omega)]; rfl
theorem cFo_r {q bs r b : Nat} (hq : q = 2 ∨ q = 17) (hr : r ≤ 14) (h1 : r ≠ 10) (h2 : r ≠ 11) : cFo (q + 10) bs (q + r) b = false := by
  unfold cFo
  rw [cTt_f (by omega), cOr_f (by omega) (by omega)]; rfl
theorem CTt.bq {σ σ' : St} {s : Rdg} (hq : q = 2 ∨ q = 17) (H : CTt σ U s) (hs : CF (fun k _ => cBq q k) σ σ') : CTt σ' U s := by
  refine H.cf hs (fun j => ?_) (fun j => ?_)
  · rcases hq with rfl | rfl <;> rfl
  · rcases hq with rfl | rfl <;> rfl
/-- behind the reading: where the formula ends is kept -/
theorem t_foEnd (d : Nat) {ρ2 : Rf} {σ σ1 σ2 : St} {k a : Nat} {y : Xs} (hq : q = 2 ∨ q = 17) (hρ : RF ρ) (hb : ρ 317 2 = some q) (hB : WfB B) (hk : k < 4) (hf : flen B ≤ 1600) (H : CNew σ q B) (hc1 : CF (cRb q) σ σ1) (he1 : ∀ r, r ≤ 14 → r ≠ 12 → σ1.1 (q + r) = σ.1 (q + r)) (he2 : σ1.1 (q + 12) = upd (σ.1 (q + 12)) k (nI (flen B)))
    (hr : RF ρ2 ∧ ∀ k j, k ≠ 318 → ρ2 k j = ρ k j) (hs : CTt σ2 U y.1) (hC : COr σ2 (q + 10) (flen B) y.2) (hc : CF (cFo (q + 10) (flen B)) σ1 σ2) (hok : isOk y.1 = true → frm B k = none ∧ flen B + y.2.length < 1620) :
    Ev l X (d + 1) 89 64 [.ref 317, .int (nI a), .int (nI k)] [] 402 402 402 ρ2 σ2 (StF U q ρ σ (y.1, adF B k y.2)) := by
  obtain ⟨bO, -, -, -, -, ro, io⟩ := bo hq hr.1
  have hOk : OkO (q + 10) := by rcases hq with rfl | rfl; exact Or.inl rfl; exact Or.inr (Or.inl rfl)
  have hsz : ∃ n, n ≤ 1620 ∧ σ2.1 (q + 10) 4 = nI n ∧ (flen B + y.2.length < 1620 → n = flen B + y.2.length) := by
    refine ⟨_, ?_, hC.2.1, fun z => if_pos z⟩
    split <;> omega
  obtain ⟨n, hn, hsz, hnn⟩ := hsz
  have hcell : ∀ r, r ≤ 14 → r ≠ 10 → r ≠ 11 → σ2.1 (q + r) = σ1.1 (q + r) := fun r h1 h2 h3 => funext fun j => hc.1 _ _ (cFo_r hq h1 h2 h3)
  have hcod : ∀ j, j < flen B → σ2.1 (q + 11) j = σ1.1 (q + 11) j := fun j hj => by
    refine hc.1 _ _ ?_
    show cFo (q + 10) (flen B) (q + 11) j = false
    unfold cFo cOr
    rw [cTt_f (by omega), nbeq (show q + 11 ≠ q + 10 by omega)]
    have : Nat.ble (flen B) j = false := by
      cases hz : Nat.ble (flen B) j with
      | false => rfl
      | true => have := Nat.ble_eq.mp hz; omega
    rw [this, Bool.and_false]; rfl
  have hfin : T l X d 68 [.ref (q + 10), .int (nI k)] 402 402 ρ2 σ2 (Ru ρ2 (sI σ2 (q + 13) (upd (σ2.1 (q + 13)) k (nI n)))) := by
    have h := t_ordFinish (l := l) (X := X) (σ := σ2) d hr.1 hOk (show k < 5 by omega)
    rw [hsz] at h
    exact h
  refine Ev_aload rfl rfl rfl ?_
  refine Ev_getR rfl (by first | rfl | assumption) (by rw [hr.2 _ _ (by decide)]; exact hb : _ = some q) ?_
  refine Ev_getR rfl (by first | rfl | assumption) (by first | exact hρ rfl | assumption) ?_
  refine Ev_iload rfl rfl ?_
  refine Ev_callV rfl rfl rfl io rfl (same_n 402) hfin ?_
  rintro v72 ρ72 σ72 ⟨rfl, e72, g72⟩
  obtain rfl := e72.symm
  obtain rfl := g72.symm
  exact Ev_return rfl rfl rfl (by
  have hc3 : CF (fun k _ => cBq q k) σ2 (sI σ2 (q + 13) (upd (σ2.1 (q + 13)) k (nI n))) := cf_cell _ (by decide)
  have e3 : ∀ r, r ≤ 14 → r ≠ 13 → (sI σ2 (q + 13) (upd (σ2.1 (q + 13)) k (nI n))).1 (q + r) = σ2.1 (q + r) := fun r h1 h2 => sR_1 _ _ (by omega)
  obtain ⟨⟨g0, g1, g2, g3, g4⟩, gi, gb, gp, gf, gs⟩ := H
  have eq0 : (sI σ2 (q + 13) (upd (σ2.1 (q + 13)) k (nI n))).1 q = σ.1 q := ((e3 0 (by decide) (by decide)).trans (hcell 0 (by decide) (by decide) (by decide))).trans (he1 0 (by decide) (by decide))
  refine ⟨rfl, hr, hs.bq hq hc3, ⟨⟨ni B, hB.1.1, by rw [eq0]; exact g0⟩, ⟨nb B, hB.1.2.1, by rw [eq0]; exact g2⟩, ⟨np B, hB.1.2.2.2.1, by rw [eq0]; exact g3⟩, ⟨n, hn, by rw [e3 10 (by decide) (by decide)]; exact hsz⟩⟩, fun z => ?_, (hc1.tr (hc.wk (fun a b z => cFo_q hq z))).tr (cB_b hc3)⟩
  obtain ⟨k1, k2⟩ := hok z
  have hn2 := hnn k2
  subst hn2
  refine CNew.aF ⟨⟨g0, g1, g2, g3, g4⟩, gi, gb, gp, gf, gs⟩ hk k1 ?_ ?_ (fun j hj => ?_) (fun j hj => ?_) ?_ (fun r hr => ?_)
  · rw [e3 12 (by decide) (by decide), hcell 12 (by decide) (by decide) (by decide), he2]
  · rw [sR_0, hcell 13 (by decide) (by decide) (by decide), he1 13 (by decide) (by decide)]
  · rw [e3 11 (by decide) (by decide), hcod j hj, he1 11 (by decide) (by decide)]
  · have hj : j < y.2.length := hj
    rw [e3 11 (by decide) (by decide)]; exact hC.2.2 j hj (by omega)
  · rw [e3 10 (by decide) (by decide)]; exact hsz
  · rw [e3 r (by omega) (by omega), hcell r (by omega) (by omega) (by omega), he1 r (by omega) (by omega)])
theorem t_readFormula (d : Nat) {σ : St} {p : Nat × Nat} {a k : Nat} (hq : q = 2 ∨ q = 17) (hρ : RF ρ) (hb : ρ 317 2 = some q) (hT : TxW U) (hB : WfB B) (hk : k < 4) (hI : Ivr U (.inr p)) (hfl : flen B ≤ p.1) (H : CNew σ q B) (Ht : CTe σ U (.inr p)) :
    T l X (d + 41) 89 [.ref 317, .int (nI a), .int (nI k)] 402 402 ρ σ (StF U q ρ σ (foR U k a (.inr p, B))) := by
  obtain ⟨bO, -, -, -, -, ro, io⟩ := bo hq hρ
  have h16 := hT.1
  have hp : p.1 ≤ U.1 := hI.1
  have hOk : OkO (q + 10) := by rcases hq with rfl | rfl; exact Or.inl rfl; exact Or.inr (Or.inl rfl)
  have gf := H.2.2.2.2.1 k hk
  have gs := H.2.2.2.2.2
  have hIA : Ivr U (foA k a (.inr p, B)) := Ivr_foA (x := (.inr p, B)) hI
  obtain ⟨x1, x2⟩ := foX_ok hT hk hIA
  have hok : isOk (foX U k (foA k a (.inr p, B))).1 = true → frm B k = none ∧ flen B + (foX U k (foA k a (.inr p, B))).2.length < 1620 := fun z => by
    obtain ⟨z1, z2, -⟩ := x2 z
    obtain ⟨e1, e2⟩ := foA_ok z1
    have hr := rpos_le x1 z
    rw [e1] at z2 hr ⊢
    exact ⟨e2, by have z2 : (foX U k (.inr p)).2.length + p.1 ≤ rpos (foX U k (.inr p)).1 := z2; have hr : rpos (foX U k (.inr p)).1 ≤ U.1 := hr; show flen B + (foX U k (.inr p)).2.length < 1620; omega⟩
  have fin : ∀ σ1, CTe σ1 U (foA k a (.inr p, B)) → CF cTt σ σ1 → Ev l X (d + 41) 89 25 [.ref 317, .int (nI a), .int (nI k)] [] 402 402 402 ρ σ1 (StF U q ρ σ (foR U k a (.inr p, B))) := by
    intro σ1 s1 c1
    have hs1 : ∀ r, r ≤ 14 → σ1.1 (q + r) = σ.1 (q + r) := fun r hr => funext fun j => c1.1 _ _ (cTt_f (by omega))
    have hsz1 : σ1.1 (q + 10) 4 = nI (flen B) := by rw [hs1 10 (by decide)]; exact gs
    have hC1 : COr σ1 (q + 10) (flen B) [] := ⟨by omega, by rw [hsz1]; show _ = nI (if flen B + 0 < 1620 then flen B + 0 else 1620); rw [if_pos (by omega)]; rfl, fun j hj => absurd hj (Nat.not_lt_zero j)⟩
    have hp1 := fo_pre (k := k) (x := nI (flen B)) hOk s1.t hC1
    have hbeg := t_foBegin (l := l) (X := X) (σ := σ1) (d + 39) hρ hOk (show k < 5 by omega)
    rw [hsz1] at hbeg
    have hcb : CF (cRb q) σ (foS σ1 (q + 10) k (nI (flen B))) := (cTt_b c1).tr ((CF.put σ1 _ rfl).tr (cB_b (cf_cell (r := 12) _ (by decide))))
    have he1 : ∀ r, r ≤ 14 → r ≠ 12 → (foS σ1 (q + 10) k (nI (flen B))).1 (q + r) = σ.1 (q + r) := fun r h1 h2 => by unfold foS; rw [sR_1 _ _ (by omega), sR_1 _ _ (by omega), hs1 r h1]
    have he2 : (foS σ1 (q + 10) k (nI (flen B))).1 (q + 12) = upd (σ.1 (q + 12)) k (nI (flen B)) := by
      show (sI _ (q + 12) (upd (σ1.1 (q + 12)) k (nI (flen B)))).1 (q + 12) = _
      rw [sR_0, hs1 12 (by decide)]
    have hro : RF (sR ρ 318 (va_up (ρ 318) 1 (some (q + 10)))) ∧ ∀ k j, k ≠ 318 → (sR ρ 318 (va_up (ρ 318) 1 (some (q + 10)))) k j = ρ k j := ⟨rf_318 hρ _, fun k j hk => rf_318n _ hk⟩
    show Ev l X (d + 41) 89 25 [.ref 317, .int (nI a), .int (nI k)] [] 402 402 402 ρ σ1 (StF U q ρ σ ((foX U k (foA k a (.inr p, B))).1, adF B k (foX U k (foA k a (.inr p, B))).2))
    by_cases hk3 : k = 3
    · have e3 : foX U k (foA k a (.inr p, B)) = (lvl U k 6).2.1 (foA k a (.inr p, B), []) := if_pos hk3
      rw [e3] at hok ⊢
      refine Ev_aload rfl rfl rfl ?_
      refine Ev_getR rfl (by first | rfl | assumption) (hρ _ _ _ rfl) ?_
      refine Ev_aload rfl rfl rfl ?_
      refine Ev_getR rfl (by first | rfl | assumption) hb ?_
      refine Ev_getR rfl (by first | rfl | assumption) (by first | exact hρ rfl | assumption) ?_
      refine Ev_iload rfl rfl ?_
      refine Ev_callV rfl rfl rfl rfl rfl (same_n 402) hbeg ?_
      rintro v37 ρ37 σ37 ⟨rfl, e37, g37⟩
      obtain rfl := e37.symm
      obtain rfl := g37.symm
      refine Ev_iload rfl rfl ?_
      refine Ev_const rfl ?_
      refine Ev_icmp_ne rfl (fun h42 => absurd (show nI k = 3 by rw [hk3]; rfl) h42) (fun h42 => ?_)
      refine Ev_aload rfl rfl rfl ?_
      refine Ev_getR rfl (by first | rfl | assumption) (hro.1 _ _ _ rfl) ?_
      refine Ev_const rfl ?_
      refine Ev_callV rfl rfl rfl rfl rfl (same_n 402) (t_foTest _ hρ hT hOk (by omega) hp1) ?_
      rintro v50 ρ50 σ50 ⟨rfl, e50, H50, c50⟩
      obtain rfl := e50.symm
      refine Ev_goto rfl ?_
      exact t_foEnd _ hq hρ hb hB hk (by omega) H hcb he1 he2 hro H50.1 H50.2.1 c50 hok
    · have e3 : foX U k (foA k a (.inr p, B)) = (lvl U k 6).2.2.1 (foA k a (.inr p, B), []) := if_neg hk3
      rw [e3] at hok ⊢
      refine Ev_aload rfl rfl rfl ?_
      refine Ev_getR rfl (by first | rfl | assumption) (hρ _ _ _ rfl) ?_
      refine Ev_aload rfl rfl rfl ?_
      refine Ev_getR rfl (by first | rfl | assumption) hb ?_
      refine Ev_getR rfl (by first | rfl | assumption) (by first | exact hρ rfl | assumption) ?_
      refine Ev_iload rfl rfl ?_
      refine Ev_callV rfl rfl rfl rfl rfl (same_n 402) hbeg ?_
      rintro v37 ρ37 σ37 ⟨rfl, e37, g37⟩
      obtain rfl := e37.symm
      obtain rfl := g37.symm
      refine Ev_iload rfl rfl ?_
      refine Ev_const rfl ?_
      refine Ev_icmp_ne rfl (fun h42 => ?_) (fun h42 => absurd ((nI_eq (b := 3) (by omega) (by decide)).mp (Decidable.not_not.mp h42)) hk3)
      refine Ev_aload rfl rfl rfl ?_
      refine Ev_getR rfl (by first | rfl | assumption) (hro.1 _ _ _ rfl) ?_
      refine Ev_const rfl ?_
      refine Ev_callV rfl rfl rfl rfl rfl (same_n 402) (t_foSum _ hρ hT hOk (by omega) hp1) ?_
      rintro v61 ρ61 σ61 ⟨rfl, e61, H61, c61⟩
      obtain rfl := e61.symm
      exact t_foEnd _ hq hρ hb hB hk (by omega) H hcb he1 he2 hro H61.1 H61.2.1 c61 hok
  cases hfr : frm B k with
  | none =>
    rw [hfr] at gf
    have gf : σ.1 (q + 12) k = -1 := gf
    have eA : foA k a (.inr p, B) = roomS 0 1 a (.inr p) := by
      unfold foA roomS
      show (if frm B k = none then _ else _) = _
      rw [if_pos hfr, if_neg (by decide)]
    refine T_of rfl ?_
    refine Ev_aload rfl rfl rfl ?_
    refine Ev_aload rfl rfl rfl ?_
    refine Ev_getR rfl (by first | rfl | assumption) hb ?_
    refine Ev_getR rfl (by first | rfl | assumption) (by first | exact hρ rfl | assumption) ?_
    refine Ev_iload rfl rfl ?_
    refine Ev_callV rfl rfl rfl io rfl (same_n 402) (t_isTold _ hρ hOk (by omega)) ?_
    rintro v9 ρ9 σ9 ⟨rfl, e9, g9⟩
    obtain rfl := e9.symm
    obtain rfl := g9.symm
    refine Ev_norm (by rw [decide_eq_true (show σ.1 (q + 10 + 2) k = -1 from gf)]; rfl : _ = bI false) ?_
    refine Ev_if_eq rfl (fun h12 => ?_) (fun h12 => absurd rfl h12)
    refine Ev_const rfl ?_
    refine Ev_const rfl ?_
    refine Ev_iload rfl rfl ?_
    refine Ev_callV rfl rfl rfl rfl rfl (same_n 402) (t_askRoom _ (n := 0) (most := 1) (a := a) hρ (by decide) (by decide) Ht) ?_
    rintro v22 ρ22 σ22 ⟨rfl, e22, s22, c22⟩
    obtain rfl := e22.symm
    exact fin σ22 (by rw [eA]; exact s22) c22
  | some cs =>
    rw [hfr] at gf
    obtain ⟨a', b', g1, g2, g3, g4, g5⟩ := gf
    have eA : foA k a (.inr p, B) = roomS 1 1 a (.inr p) := by
      unfold foA roomS
      show (if frm B k = none then _ else _) = _
      rw [if_neg (by rw [hfr]; intro z; cases z), if_pos (by decide)]
    refine T_of rfl ?_
    refine Ev_aload rfl rfl rfl ?_
    refine Ev_aload rfl rfl rfl ?_
    refine Ev_getR rfl (by first | rfl | assumption) hb ?_
    refine Ev_getR rfl (by first | rfl | assumption) (by first | exact hρ rfl | assumption) ?_
    refine Ev_iload rfl rfl ?_
    refine Ev_callV rfl rfl rfl io rfl (same_n 402) (t_isTold _ hρ hOk (by omega)) ?_
    rintro v9 ρ9 σ9 ⟨rfl, e9, g9⟩
    obtain rfl := e9.symm
    obtain rfl := g9.symm
    refine Ev_norm (by rw [decide_eq_false (show ¬ σ.1 (q + 10 + 2) k = -1 from fun z => nI_m1 (n := a') (by omega) (g1.symm.trans z))]; rfl : _ = bI true) ?_
    refine Ev_if_eq rfl (fun h12 => absurd h12 (by decide)) (fun h12 => ?_)
    refine Ev_const rfl ?_
    refine Ev_goto rfl ?_
    refine Ev_const rfl ?_
    refine Ev_iload rfl rfl ?_
    refine Ev_callV rfl rfl rfl rfl rfl (same_n 402) (t_askRoom _ (n := 1) (most := 1) (a := a) hρ (by decide) (by decide) Ht) ?_
    rintro v22 ρ22 σ22 ⟨rfl, e22, s22, c22⟩
    obtain rfl := e22.symm
    exact fin σ22 (by rw [eA]; exact s22) c22
/-- no such word begins a statement -/
theorem sq_no {p : Nat × Nat} (hL : lkS U (.inr p) = .inr p) (hne : ¬ wAt U (.inr p) = kw 31) : (sqR U (.inr p, B)).1 = .inl (1, p.1) := by
  show aNu U 100 (aWd U (kw 31) (.inr p)) = _
  unfold aWd
  rw [if_neg hne, hL]
  rfl
theorem t_readStatement (d : Nat) {σ : St} {p : Nat × Nat} (hq : q = 2 ∨ q = 17) (hρ : RF ρ) (hb : ρ 317 2 = some q) (hT : TxW U) (hB : WfB B) (hfl : flen B ≤ p.1) (hI : Ivr U (.inr p)) (hL : lkS U (.inr p) = .inr p) (H0 : CNew σ q B) (H : CTe σ U (.inr p)) :
    T l X (d + 42) 80 [.ref 317] 402 402 ρ σ (StF U q ρ σ (stm U (.inr p, B))) := by
  have h16 := hT.1
  have hp : p.1 ≤ U.1 := hI.1
  have hf : flen B ≤ 1620 := by omega
  have bO := (bo hq hρ).1
  have hro := H0.ro hB hf
  have hfr : σ.1 316 3 = nI p.1 := H.t.fr hT (a := p.1) (tc := p.2) hL
  have hstm : stm U (.inr p, B) = if wAt U (.inr p) = kw 0 then idR U p.1 (tWd U (kw 0) (.inr p), B)
        else if wAt U (.inr p) = kw 3 then ndR U p.1 (tWd U (kw 3) (.inr p), B)
        else if wAt U (.inr p) = kw 5 then btR U p.1 (tWd U (kw 5) (.inr p), B)
        else if wAt U (.inr p) = kw 8 then plR U p.1 (tWd U (kw 8) (.inr p), B)
        else if wAt U (.inr p) = kw 10 then foR U 0 p.1 (tWd U (kw 10) (.inr p), B)
        else if wAt U (.inr p) = kw 28 then foR U 1 p.1 (tWd U (kw 28) (.inr p), B)
        else if wAt U (.inr p) = kw 29 then foR U 2 p.1 (tWd U (kw 29) (.inr p), B)
        else if wAt U (.inr p) = kw 30 then foR U 3 p.1 (tWd U (kw 30) (.inr p), B)
        else sqR U (.inr p, B) := rfl
  -- no statement begins so
  have hnone : (∀ i, i ∈ [0, 2, 4, 7, 9, 10, 11, 12, 13] → ¬ wAt U (.inr p) = wL.getD i []) → (stm U (.inr p, B)).1 = .inl (1, p.1) := fun z => by
    rw [hstm, if_neg (show ¬ wAt U (.inr p) = kw 0 from z 0 (by decide)), if_neg (show ¬ wAt U (.inr p) = kw 3 from z 2 (by decide)), if_neg (show ¬ wAt U (.inr p) = kw 5 from z 4 (by decide)), if_neg (show ¬ wAt U (.inr p) = kw 8 from z 7 (by decide)), if_neg (show ¬ wAt U (.inr p) = kw 10 from z 9 (by decide)), if_neg (show ¬ wAt U (.inr p) = kw 28 from z 10 (by decide)), if_neg (show ¬ wAt U (.inr p) = kw 29 from z 11 (by decide)), if_neg (show ¬ wAt U (.inr p) = kw 30 from z 12 (by decide))]
    exact sq_no hL (z 13 (by decide))
  have tr : ∀ {σ1 : St} {y : Rdg × Bh} {v : Option Value} {ρ' : Rf} {σ' : St}, CF cTt σ σ1 → StF U q ρ σ1 y v ρ' σ' → StF U q ρ σ y v ρ' σ' := fun h1 h => ⟨h.1, h.2.1, h.2.2.1, h.2.2.2.1, h.2.2.2.2.1, (cTt_b h1).tr h.2.2.2.2.2⟩
  have bad : ∀ {σ1 : St}, (stm U (.inr p, B)).1 = .inl (1, p.1) → CTe σ1 U (.inl (1, p.1)) → CF cTt σ σ1 → StF U q ρ σ (stm U (.inr p, B)) none ρ σ1 := fun e s1 c1 =>
    ⟨rfl, ⟨hρ, fun _ _ _ => rfl⟩, by rw [e]; exact s1.t, hro.tt hq c1, (fun z => by rw [e] at z; cases z), cTt_b c1⟩
  by_cases hw : ∃ i, i < 33 ∧ wAt U (.inr p) = wL.getD i []
  · obtain ⟨i, hi, hw⟩ := hw
    have hh := (H.t.hw hT hi).mpr hw
    have hne := (wL_ne i hi).1
    have hti : (nI (259 + i)).toInt = ((259 + i : Nat) : Int) := nI_toInt (by omega)
    have hn := t_nextW (l := l) (X := X) (d + 36) hρ hT H.t hw hne
    rw [← tWd_y hw] at hn
    have other : ∀ {σ1 : St}, (¬ i = 0 ∧ ¬ i = 2 ∧ ¬ i = 4 ∧ ¬ i = 7 ∧ ¬ i = 9 ∧ ¬ i = 10 ∧ ¬ i = 11 ∧ ¬ i = 12 ∧ ¬ i = 13) → CTe σ1 U (tWd U (wL.getD i []) (.inr p)) → CF cTt σ σ1 → Ev l X (d + 42) 80 199 [.ref 317, .int (nI p.1), .int (nI (259 + i))] [] 402 402 402 ρ σ1 (StF U q ρ σ (stm U (.inr p, B))) := by
      intro σ1 hno s1 c1
      have e := hnone (fun k hk z => by
        have hk33 : k < 33 := by
          simp only [List.mem_cons, List.not_mem_nil, or_false] at hk
          omega
        have := wL_inj i hi k hk33 (hw.symm.trans z)
        subst this
        simp only [List.mem_cons, List.not_mem_nil, or_false] at hk
        omega)
      have e1 : flP 1 p.1 (tWd U (wL.getD i []) (.inr p)) = .inl (1, p.1) := by rw [tWd_y hw, hL]; rfl
      refine Ev_aload rfl rfl rfl ?_
      refine Ev_getR rfl (by first | rfl | assumption) (hρ _ _ _ rfl) ?_
      refine Ev_const rfl ?_
      refine Ev_iload rfl rfl ?_
      refine Ev_callV rfl rfl rfl rfl rfl (same_n 402) (t_fail _ (w := 1) (k := p.1) s1 (by decide) (fun _ _ => rfl)) ?_
      rintro v205 ρ205 σ205 ⟨rfl, e205, s205, c205⟩
      obtain rfl := e205.symm
      exact Ev_return rfl rfl rfl (bad e (by rw [e1] at s205; exact s205) (c1.tr c205))
    refine T_of rfl ?_
    refine Ev_aload rfl rfl rfl ?_
    refine Ev_getR rfl (by first | rfl | assumption) (hρ _ _ _ rfl) ?_
    refine Ev_getI rfl (by first | rfl | assumption) ?_
    refine Ev_norm hfr ?_
    refine Ev_istore rfl ?_
    refine Ev_aload rfl rfl rfl ?_
    refine Ev_getR rfl (by first | rfl | assumption) (hρ _ _ _ rfl) ?_
    refine Ev_getI rfl (by first | rfl | assumption) ?_
    refine Ev_norm hh ?_
    refine Ev_istore rfl ?_
    refine Ev_iload rfl rfl ?_
    refine Ev_const rfl ?_
    refine Ev_icmp_ge rfl (fun h20 => ?_) (fun h20 => absurd (nI_le (a := 259) (b := 259 + i) (by omega) (by omega)) h20)
    refine Ev_aload rfl rfl rfl ?_
    refine Ev_getR rfl (by first | rfl | assumption) (hρ _ _ _ rfl) ?_
    refine Ev_callV rfl rfl rfl rfl rfl (same_n 402) hn ?_
    rintro v37 ρ37 σ37 ⟨rfl, e37, s37, c37⟩
    obtain rfl := e37.symm
    refine Ev_iload rfl rfl ?_
    refine Ev_tab rfl rfl (swP_c (fun h41_0 => ?_) (fun g41_0 => swP_c (fun h41_1 => ?_) (fun g41_1 => swP_c (fun h41_2 => ?_) (fun g41_2 => swP_c (fun h41_3 => ?_) (fun g41_3 => swP_c (fun h41_4 => ?_) (fun g41_4 => swP_c (fun h41_5 => ?_) (fun g41_5 => swP_c (fun h41_6 => ?_) (fun g41_6 => swP_c (fun h41_7 => ?_) (fun g41_7 => swP_c (fun h41_8 => ?_) (fun g41_8 => swP_c (fun h41_9 => ?_) (fun g41_9 => swP_c (fun h41_10 => ?_) (fun g41_10 => swP_c (fun h41_11 => ?_) (fun g41_11 => swP_c (fun h41_12 => ?_) (fun g41_12 => swP_c (fun h41_13 => ?_) (fun g41_13 => swP_n ?_)))))))))))))))
    · have hi0 : i = 0 := by rw [hti] at h41_0; omega
      subst hi0
      rw [kw_0] at hw s37
      rw [hstm, if_pos hw]
      refine Ev_aload rfl rfl rfl ?_
      refine Ev_iload rfl rfl ?_
      refine Ev_callV rfl rfl rfl rfl rfl (same_n 402) (t_readIdea _ hq hρ hb hT hB hf (H0.tt hq c37) s37) ?_
      rintro v114 ρ114 σ114 ⟨rfl, e2, h2⟩
      obtain rfl := e2.symm
      refine Ev_goto rfl ?_
      exact Ev_return rfl rfl rfl (tr c37 (StC.f hρ ⟨rfl, rfl, h2⟩))
    · exact other (by rw [hti] at h41_1; omega) s37 c37
    · have hi0 : i = 2 := by rw [hti] at h41_2; omega
      subst hi0
      rw [kw_3] at hw s37
      rw [hstm, if_neg (by rw [hw]; decide), if_pos hw]
      refine Ev_aload rfl rfl rfl ?_
      refine Ev_iload rfl rfl ?_
      refine Ev_callV rfl rfl rfl rfl rfl (same_n 402) (t_readNeed _ hq hρ hb hT hB hf (H0.tt hq c37) s37) ?_
      rintro v122 ρ122 σ122 ⟨rfl, e2, h2⟩
      obtain rfl := e2.symm
      refine Ev_goto rfl ?_
      exact Ev_return rfl rfl rfl (tr c37 (StC.f hρ ⟨rfl, rfl, h2⟩))
    · exact other (by rw [hti] at h41_3; omega) s37 c37
    · have hi0 : i = 4 := by rw [hti] at h41_4; omega
      subst hi0
      rw [kw_5] at hw s37
      rw [hstm, if_neg (by rw [hw]; decide), if_neg (by rw [hw]; decide), if_pos hw]
      refine Ev_aload rfl rfl rfl ?_
      refine Ev_iload rfl rfl ?_
      refine Ev_callV rfl rfl rfl rfl rfl (same_n 402) (t_readBather _ hq hρ hb hT hB hf (H0.tt hq c37) s37) ?_
      rintro v130 ρ130 σ130 ⟨rfl, e2, h2⟩
      obtain rfl := e2.symm
      refine Ev_goto rfl ?_
      exact Ev_return rfl rfl rfl (tr c37 (StC.f hρ ⟨rfl, rfl, h2⟩))
    · exact other (by rw [hti] at h41_5; omega) s37 c37
    · exact other (by rw [hti] at h41_6; omega) s37 c37
    · have hi0 : i = 7 := by rw [hti] at h41_7; omega
      subst hi0
      rw [kw_8] at hw s37
      rw [hstm, if_neg (by rw [hw]; decide), if_neg (by rw [hw]; decide), if_neg (by rw [hw]; decide), if_pos hw]
      refine Ev_aload rfl rfl rfl ?_
      refine Ev_iload rfl rfl ?_
      refine Ev_callV rfl rfl rfl rfl rfl (same_n 402) (t_readRow _ hq hρ hb hT hB hf (H0.tt hq c37) s37) ?_
      rintro v138 ρ138 σ138 ⟨rfl, e2, h2⟩
      obtain rfl := e2.symm
      refine Ev_goto rfl ?_
      exact Ev_return rfl rfl rfl (tr c37 (StC.f hρ ⟨rfl, rfl, h2⟩))
    · exact other (by rw [hti] at h41_8; omega) s37 c37
    · have hi0 : i = 9 := by rw [hti] at h41_9; omega
      subst hi0
      rw [kw_10] at hw s37
      rw [hstm, if_neg (by rw [hw]; decide), if_neg (by rw [hw]; decide), if_neg (by rw [hw]; decide), if_neg (by rw [hw]; decide), if_pos hw]
      have hw2 := wf_tW (x := (.inr p, B)) (by decide) hw ⟨hI, fun _ => ⟨hB, hfl⟩⟩
      obtain ⟨p2, hp2⟩ : ∃ p2, tWd U (kw 10) (.inr p) = .inr p2 := ⟨_, by rw [tWd_y hw, hL]; rfl⟩
      have hwI : Ivr U (tWd U (kw 10) (.inr p)) := hw2.1
      have hwf : flen B ≤ rpos (tWd U (kw 10) (.inr p)) := (hw2.2 (by show isOk (tWd U (kw 10) (.inr p)) = true; rw [hp2]; rfl)).2
      have H1 := H0.tt hq c37
      rw [hp2] at hwI hwf s37 ⊢
      refine Ev_aload rfl rfl rfl ?_
      refine Ev_iload rfl rfl ?_
      refine Ev_const rfl ?_
      refine Ev_callV rfl rfl rfl rfl rfl (same_n 402) (t_readFormula _ (k := 0) hq hρ hb hT hB (by decide) hwI hwf H1 s37) ?_
      rintro v147 ρ147 σ147 ⟨rfl, e2, h2⟩
      refine Ev_goto rfl ?_
      exact Ev_return rfl rfl rfl (tr c37 ⟨rfl, e2, h2⟩)
    · have hi0 : i = 10 := by rw [hti] at h41_10; omega
      subst hi0
      rw [kw_28] at hw s37
      rw [hstm, if_neg (by rw [hw]; decide), if_neg (by rw [hw]; decide), if_neg (by rw [hw]; decide), if_neg (by rw [hw]; decide), if_neg (by rw [hw]; decide), if_pos hw]
      have hw2 := wf_tW (x := (.inr p, B)) (by decide) hw ⟨hI, fun _ => ⟨hB, hfl⟩⟩
      obtain ⟨p2, hp2⟩ : ∃ p2, tWd U (kw 28) (.inr p) = .inr p2 := ⟨_, by rw [tWd_y hw, hL]; rfl⟩
      have hwI : Ivr U (tWd U (kw 28) (.inr p)) := hw2.1
      have hwf : flen B ≤ rpos (tWd U (kw 28) (.inr p)) := (hw2.2 (by show isOk (tWd U (kw 28) (.inr p)) = true; rw [hp2]; rfl)).2
      have H1 := H0.tt hq c37
      rw [hp2] at hwI hwf s37 ⊢
      refine Ev_aload rfl rfl rfl ?_
      refine Ev_iload rfl rfl ?_
      refine Ev_const rfl ?_
      refine Ev_callV rfl rfl rfl rfl rfl (same_n 402) (t_readFormula _ (k := 1) hq hρ hb hT hB (by decide) hwI hwf H1 s37) ?_
      rintro v156 ρ156 σ156 ⟨rfl, e2, h2⟩
      refine Ev_goto rfl ?_
      exact Ev_return rfl rfl rfl (tr c37 ⟨rfl, e2, h2⟩)
    · have hi0 : i = 11 := by rw [hti] at h41_11; omega
      subst hi0
      rw [kw_29] at hw s37
      rw [hstm, if_neg (by rw [hw]; decide), if_neg (by rw [hw]; decide), if_neg (by rw [hw]; decide), if_neg (by rw [hw]; decide), if_neg (by rw [hw]; decide), if_neg (by rw [hw]; decide), if_pos hw]
      have hw2 := wf_tW (x := (.inr p, B)) (by decide) hw ⟨hI, fun _ => ⟨hB, hfl⟩⟩
      obtain ⟨p2, hp2⟩ : ∃ p2, tWd U (kw 29) (.inr p) = .inr p2 := ⟨_, by rw [tWd_y hw, hL]; rfl⟩
      have hwI : Ivr U (tWd U (kw 29) (.inr p)) := hw2.1
      have hwf : flen B ≤ rpos (tWd U (kw 29) (.inr p)) := (hw2.2 (by show isOk (tWd U (kw 29) (.inr p)) = true; rw [hp2]; rfl)).2
      have H1 := H0.tt hq c37
      rw [hp2] at hwI hwf s37 ⊢
      refine Ev_aload rfl rfl rfl ?_
      refine Ev_iload rfl rfl ?_
      refine Ev_const rfl ?_
      refine Ev_callV rfl rfl rfl rfl rfl (same_n 402) (t_readFormula _ (k := 2) hq hρ hb hT hB (by decide) hwI hwf H1 s37) ?_
      rintro v165 ρ165 σ165 ⟨rfl, e2, h2⟩
      refine Ev_goto rfl ?_
      exact Ev_return rfl rfl rfl (tr c37 ⟨rfl, e2, h2⟩)
    · have hi0 : i = 12 := by rw [hti] at h41_12; omega
      subst hi0
      rw [kw_30] at hw s37
      rw [hstm, if_neg (by rw [hw]; decide), if_neg (by rw [hw]; decide), if_neg (by rw [hw]; decide), if_neg (by rw [hw]; decide), if_neg (by rw [hw]; decide), if_neg (by rw [hw]; decide), if_neg (by rw [hw]; decide), if_pos hw]
      have hw2 := wf_tW (x := (.inr p, B)) (by decide) hw ⟨hI, fun _ => ⟨hB, hfl⟩⟩
      obtain ⟨p2, hp2⟩ : ∃ p2, tWd U (kw 30) (.inr p) = .inr p2 := ⟨_, by rw [tWd_y hw, hL]; rfl⟩
      have hwI : Ivr U (tWd U (kw 30) (.inr p)) := hw2.1
      have hwf : flen B ≤ rpos (tWd U (kw 30) (.inr p)) := (hw2.2 (by show isOk (tWd U (kw 30) (.inr p)) = true; rw [hp2]; rfl)).2
      have H1 := H0.tt hq c37
      rw [hp2] at hwI hwf s37 ⊢
      refine Ev_aload rfl rfl rfl ?_
      refine Ev_iload rfl rfl ?_
      refine Ev_const rfl ?_
      refine Ev_callV rfl rfl rfl rfl rfl (same_n 402) (t_readFormula _ (k := 3) hq hρ hb hT hB (by decide) hwI hwf H1 s37) ?_
      rintro v174 ρ174 σ174 ⟨rfl, e2, h2⟩
      refine Ev_goto rfl ?_
      exact Ev_return rfl rfl rfl (tr c37 ⟨rfl, e2, h2⟩)
    · have hi0 : i = 13 := by rw [hti] at h41_13; omega
      subst hi0
      rw [kw_31] at hw s37
      rw [hstm, if_neg (by rw [hw]; decide), if_neg (by rw [hw]; decide), if_neg (by rw [hw]; decide), if_neg (by rw [hw]; decide), if_neg (by rw [hw]; decide), if_neg (by rw [hw]; decide), if_neg (by rw [hw]; decide), if_neg (by rw [hw]; decide)]
      have ew : aWd U (kw 31) (.inr p) = tWd U (kw 31) (.inr p) := by unfold aWd tWd; rw [if_pos hw, if_pos hw]
      rw [← ew] at s37
      refine Ev_aload rfl rfl rfl ?_
      refine Ev_getR rfl (by first | rfl | assumption) hb ?_
      refine Ev_aload rfl rfl rfl ?_
      refine Ev_getR rfl (by first | rfl | assumption) (hρ _ _ _ rfl) ?_
      refine Ev_const rfl ?_
      refine Ev_callV rfl rfl rfl rfl rfl (same_n 402) (t_askNumber _ (most := 100) hρ hT (by decide) s37.t) ?_
      rintro v190 ρ190 σ190 ⟨rfl, e190, s190, c190⟩
      obtain rfl := e190.symm
      refine Ev_putI rfl bO ⟨rfl, rfl⟩ rfl ?_
      refine Ev_goto rfl ?_
      exact Ev_return rfl rfl rfl (by
      have H2 := (H0.tt hq c37).tt hq c190
      have hc3 : CF (fun k _ => cBq q k) σ190 (sI σ190 q (upd (σ190.1 q) 14 (nI (vNu U 100 (aWd U (kw 31) (.inr p)))))) := cf_cell (r := 0) _ (by decide)
      have hN : CNew (sI σ190 q (upd (σ190.1 q) 14 (nI (vNu U 100 (aWd U (kw 31) (.inr p)))))) q (adQ B (vNu U 100 (aWd U (kw 31) (.inr p)))) := by
        obtain ⟨⟨g0, g1, g2, g3, g4⟩, gi, gb, gp, gf, gs⟩ := H2
        have e : ∀ r, 1 ≤ r → r ≤ 14 → (sI σ190 q (upd (σ190.1 q) 14 (nI (vNu U 100 (aWd U (kw 31) (.inr p)))))).1 (q + r) = σ190.1 (q + r) := fun r h1 _ => sR_1 _ _ (by omega)
        refine ⟨⟨?_, ?_, ?_, ?_, ?_⟩, fun i hi => ?_, fun b hb => ?_, fun k hk => ?_, ?_, by rw [e 10 (by decide) (by decide)]; exact gs⟩
        · rw [sR_0, pk_un (by decide)]; exact g0
        · rw [sR_0, pk_un (by decide)]; exact g1
        · rw [sR_0, pk_un (by decide)]; exact g2
        · rw [sR_0, pk_un (by decide)]; exact g3
        · rw [sR_0, pk_us]; rfl
        · rw [e 1 (by decide) (by decide), e 2 (by decide) (by decide), e 3 (by decide) (by decide)]; exact gi i hi
        · rw [e 5 (by decide) (by decide), e 6 (by decide) (by decide), e 7 (by decide) (by decide)]; exact gb b hb
        · rw [e 8 (by decide) (by decide), e 9 (by decide) (by decide)]; exact gp k hk
        · unfold CNf; rw [e 12 (by decide) (by decide), e 13 (by decide) (by decide), e 11 (by decide) (by decide)]; exact gf
      exact ⟨rfl, ⟨hρ, fun _ _ _ => rfl⟩, (s190.bq hq hc3).t, hN.rb hB.1.1 hB.1.2.1 hB.1.2.2.2.1 hf, fun _ => hN, ((cTt_b c37).tr (cTt_b c190)).tr (cB_b hc3)⟩)
    · exact other (by
      rw [hti] at g41_0 g41_1 g41_2 g41_3 g41_4 g41_5 g41_6 g41_7 g41_8 g41_9 g41_10 g41_11 g41_12 g41_13
      omega) s37 c37
  · have e := hnone (fun k hk z => hw ⟨k, by
      simp only [List.mem_cons, List.not_mem_nil, or_false] at hk
      omega, z⟩)
    have e1 : flP 1 p.1 (.inr p) = .inl (1, p.1) := rfl
    have hlt : ¬ (259 : Int32) ≤ σ.1 316 2 := fun z => by
      rcases hcd_c (U := U) (.inr p) with ⟨k1, k2⟩ | ⟨a, tc, k1, k2, k3, k4⟩
      · have hh : σ.1 316 2 = hcd U (.inr p) := H.2.2.2.2.2.1
        rw [hh] at z
        rcases k2 with k2 | k2
        · rw [k2] at z; exact absurd z (by decide)
        · rw [k2] at z; exact absurd z (by decide)
      · have hh : σ.1 316 2 = hcd U (.inr p) := H.2.2.2.2.2.1
        rw [hh, k4] at z
        have z := (nI_leI (a := 259) (by decide) (by
          rcases tkc_r hT a with ⟨g1, g2⟩ | ⟨g1, g2, g3⟩ | ⟨g1, g2, g3, g4⟩
          · have := wcd_lt (wrd U a); omega
          · omega
          · omega)).mp z
        rcases tkc_r hT a with ⟨g1, g2⟩ | ⟨g1, g2, g3⟩ | ⟨g1, g2, g3, g4⟩
        · rcases wcd_r (wrd U a) with ⟨w1, w2⟩ | ⟨j, w1, w2, w3⟩
          · omega
          · exact hw ⟨j, w1, (wAt_of k2 k1).trans w3.symm⟩
        · omega
        · omega
    refine T_of rfl ?_
    refine Ev_aload rfl rfl rfl ?_
    refine Ev_getR rfl (by first | rfl | assumption) (hρ _ _ _ rfl) ?_
    refine Ev_getI rfl (by first | rfl | assumption) ?_
    refine Ev_norm hfr ?_
    refine Ev_istore rfl ?_
    refine Ev_aload rfl rfl rfl ?_
    refine Ev_getR rfl (by first | rfl | assumption) (hρ _ _ _ rfl) ?_
    refine Ev_getI rfl (by first | rfl | assumption) ?_
    refine Ev_istore rfl ?_
    refine Ev_iload rfl rfl ?_
    refine Ev_const rfl ?_
    refine Ev_icmp_ge rfl (fun h20 => absurd h20 hlt) (fun h20 => ?_)
    refine Ev_aload rfl rfl rfl ?_
    refine Ev_getR rfl (by first | rfl | assumption) (hρ _ _ _ rfl) ?_
    refine Ev_const rfl ?_
    refine Ev_iload rfl rfl ?_
    refine Ev_callV rfl rfl rfl rfl rfl (same_n 402) (t_fail _ (w := 1) (k := p.1) H (by decide) (fun _ _ => rfl)) ?_
    rintro v29 ρ29 σ29 ⟨rfl, e29, s29, c29⟩
    obtain rfl := e29.symm
    exact Ev_return rfl rfl rfl (bad e (by rw [e1] at s29; exact s29) c29)
end S88zze
