/-! A beach read by the class: a formula, a statement. -/
/-- what a statement leaves -/
def StF (U : Tx) (q : Nat) (ρ : Rf) (σ : St) (y : Rdg × Bh) : Po := fun v ρ' σ' => v = none ∧ (RF ρ' ∧ ∀ k j, k ≠ 318 → ρ' k j = ρ k j) ∧ CTt σ' U y.1 ∧ CRo σ' q ∧ (isOk y.1 = true → CNew σ' q y.2) ∧ CF (cRb q) σ σ'
section S88zze
variable {l : Launch} {X : Cx} {ρ : Rf} {U : Tx} {q : Nat} {B : Bh}
theorem StC.f {σ : St} {y : Rdg × Bh} {v : Option Value} {ρ' : Rf} {σ' : St} (hρ : RF ρ) (h : StC U q ρ σ y v ρ' σ') : StF U q ρ σ y v ρ' σ' := ⟨h.1, by rw [h.2.1]; exact ⟨hρ, fun _ _ _ => rfl⟩, h.2.2⟩
theorem cFo_q {q bs a b : Nat} (hq : q = 2 ∨ q = 17) (h : cRb q a b = false) : (cFo (q + 10) bs a b || (Nat.beq a 318 && Nat.beq b 2)) = false := by
  obtain ⟨h1, h2, h3⟩ := cRb_f h
  have h4 := cBq_f h3
  have e1 : cFo (q + 10) bs a b = false := by
    unfold cFo
    rw [cTt_n h1, cOr_f (by omega) (by omega)]; rfl
  rw [e1]
  by_cases hz : a = 318
  · rw [hz, nbeq (h2 hz)]; rfl
  · rw [nbeq hz]; rfl
theorem cFo_r {q bs r b : Nat} (hq : q = 2 ∨ q = 17) (hr : r ≤ 14) (h1 : r ≠ 10) (h2 : r ≠ 11) : (cFo (q + 10) bs (q + r) b || (Nat.beq (q + r) 318 && Nat.beq b 2)) = false := by
  unfold cFo
  rw [cTt_f (by omega), cOr_f (by omega) (by omega), nbeq (show q + r ≠ 318 by omega)]; rfl
/-- behind the reading: where the formula ends is kept -/
theorem t_foEnd (d : Nat) {ρ2 : Rf} {σ σ1 σ2 : St} {k a : Nat} {p : Nat × Nat} {y : Xs} (hq : q = 2 ∨ q = 17) (hρ : RF ρ) (hb : ρ 317 2 = some q) (hB : WfB B) (hk : k < 4) (hf : flen B ≤ 1600) (H : CNew σ q B) (hc1 : CF (cRb q) σ σ1) (he1 : ∀ r, r ≤ 14 → r ≠ 13 → σ1.1 (q + r) = σ.1 (q + r)) (he2 : σ1.1 (q + 13) = upd (σ.1 (q + 13)) k (nI (flen B)))
    (hr : RF ρ2 ∧ ∀ k j, k ≠ 318 → ρ2 k j = ρ k j) (hs : CTt σ2 U y.1) (hC : COr σ2 (q + 10) (flen B) y.2) (hc : CF (fun a b => cFo (q + 10) (flen B) a b || (Nat.beq a 318 && Nat.beq b 2)) σ1 σ2) (hok : isOk y.1 = true → frm B k = none ∧ flen B + y.2.length < 1620) :
    Ev l X (d + 1) 89 81 [.ref 317, .int (nI a), .int (nI k)] [] 400 400 400 ρ2 σ2 (StF U q ρ σ (y.1, adF B k y.2)) := by
  obtain ⟨bO, -, -, -, ⟨-, ⟨a14, s14, r14⟩⟩, ro, io⟩ := bo hq hr.1
  have hsz : ∃ n, n ≤ 1620 ∧ σ2.1 (q + 10) 2 = nI n ∧ (flen B + y.2.length < 1620 → n = flen B + y.2.length) := by
    refine ⟨_, ?_, hC.2.1, fun z => if_pos z⟩
    split <;> omega
  obtain ⟨n, hn, hsz, hnn⟩ := hsz
  have hcell : ∀ r, r ≤ 14 → r ≠ 10 → r ≠ 11 → σ2.1 (q + r) = σ1.1 (q + r) := fun r h1 h2 h3 => funext fun j => hc.1 _ _ (cFo_r hq h1 h2 h3)
  have hcod : ∀ j, j < flen B → σ2.1 (q + 11) j = σ1.1 (q + 11) j := fun j hj => by
    refine hc.1 _ _ ?_
    show (cFo (q + 10) (flen B) (q + 11) j || (Nat.beq (q + 11) 318 && Nat.beq j 2)) = false
    unfold cFo cOr
    rw [cTt_f (by omega), nbeq (show q + 11 ≠ q + 10 by omega), nbeq (show q + 11 ≠ 318 by omega)]
    have : Nat.ble (flen B) j = false := by
      cases hz : Nat.ble (flen B) j with
      | false => rfl
      | true => have := Nat.ble_eq.mp hz; omega
    rw [this, Bool.and_false]; rfl
  refine Ev_aload rfl rfl rfl ?_
  refine Ev_getR rfl (by first | rfl | assumption) (by rw [hr.2 _ _ (by decide)]; exact hb : _ = some q) ?_
  refine Ev_getR rfl (by first | rfl | assumption) (by first | exact hρ rfl | assumption) ?_
  refine Ev_iload rfl rfl ?_
  refine Ev_aload rfl rfl rfl ?_
  refine Ev_getR rfl (by first | rfl | assumption) (by rw [hr.2 _ _ (by decide)]; exact hb : _ = some q) ?_
  refine Ev_getR rfl (by first | rfl | assumption) (by first | exact hρ rfl | assumption) ?_
  refine Ev_getI rfl (by first | rfl | assumption) ?_
  refine Ev_norm hsz ?_
  refine Ev_iast rfl (by first | rfl | assumption) (by rw [s14]; exact vp_in_nI (n := k) (show k < 4 by omega) (by decide)) ?_
  exact Ev_return rfl rfl rfl (by
  rw [nI_clamp (show k < 2 ^ 31 by omega)]
  have hc3 : CF (fun k _ => cBq q k) σ2 (sI σ2 (q + 14) (upd (σ2.1 (q + 14)) k (nI n))) := cf_cell _ (by decide)
  have e3 : ∀ r, r ≤ 14 → r ≠ 14 → (sI σ2 (q + 14) (upd (σ2.1 (q + 14)) k (nI n))).1 (q + r) = σ2.1 (q + r) := fun r h1 h2 => sR_1 _ _ (by omega)
  obtain ⟨⟨g0, g1, g2, g3, g4⟩, gi, gb, gp, gf, gs⟩ := H
  have eq0 : (sI σ2 (q + 14) (upd (σ2.1 (q + 14)) k (nI n))).1 q = σ.1 q := ((e3 0 (by decide) (by decide)).trans (hcell 0 (by decide) (by decide) (by decide))).trans (he1 0 (by decide) (by decide))
  refine ⟨rfl, hr, hs.bq hq hc3, ⟨⟨ni B, hB.1.1, by rw [eq0]; exact g0⟩, ⟨nb B, hB.1.2.1, by rw [eq0]; exact g2⟩, ⟨np B, hB.1.2.2.2.1, by rw [eq0]; exact g3⟩, ⟨n, hn, by rw [e3 10 (by decide) (by decide)]; exact hsz⟩⟩, fun z => ?_, (hc1.tr (hc.wk (fun a b z => cFo_q hq z))).tr (cB_b hc3)⟩
  obtain ⟨k1, k2⟩ := hok z
  have hn2 := hnn k2
  subst hn2
  refine CNew.aF ⟨⟨g0, g1, g2, g3, g4⟩, gi, gb, gp, gf, gs⟩ hk k1 ?_ ?_ (fun j hj => ?_) (fun j hj => ?_) ?_ (fun r hr => ?_)
  · rw [e3 13 (by decide) (by decide), hcell 13 (by decide) (by decide) (by decide), he2]
  · rw [sR_0, hcell 14 (by decide) (by decide) (by decide), he1 14 (by decide) (by decide)]
  · rw [e3 11 (by decide) (by decide), hcod j hj, he1 11 (by decide) (by decide)]
  · have hj : j < y.2.length := hj
    rw [e3 11 (by decide) (by decide)]; exact hC.2.2 j hj (by omega)
  · rw [e3 10 (by decide) (by decide)]; exact hsz
  · rw [e3 r (by omega) (by omega), hcell r (by omega) (by omega) (by omega), he1 r (by omega) (by omega)])
theorem t_readFormula (d : Nat) {σ : St} {p : Nat × Nat} {a k : Nat} (hq : q = 2 ∨ q = 17) (hρ : RF ρ) (hb : ρ 317 2 = some q) (hT : TxW U) (hB : WfB B) (hk : k < 4) (hI : Ivr U (.inr p)) (hfl : flen B ≤ p.1) (H : CNew σ q B) (Ht : CTt σ U (.inr p)) :
    T l X (d + 41) 89 [.ref 317, .int (nI a), .int (nI k)] 400 400 ρ σ (StF U q ρ σ (foR U k a (.inr p, B))) := by
  obtain ⟨bO, -, -, -, ⟨⟨a13, s13, r13⟩, -⟩, ro, io⟩ := bo hq hρ
  have h16 := hT.1
  have hp : p.1 ≤ U.1 := hI.1
  have hOk : OkO (q + 10) := by rcases hq with rfl | rfl; exact Or.inl rfl; exact Or.inr (Or.inl rfl)
  have gf := H.2.2.2.2.1 k hk
  have gs := H.2.2.2.2.2
  have hIA : Ivr U (foA k a (.inr p, B)) := Ivr_foA (x := (.inr p, B)) hI
  obtain ⟨x1, x2⟩ := foX_ok hT hk hIA
  have hok : isOk (foX U k (foA k a (.inr p, B))).1 = true → frm B k = none ∧ flen B + (foX U k (foA k a (.inr p, B))).2.length < 1620 := fun z => by
    obtain ⟨z1, z2, -⟩ := x2 z
    obtain ⟨e1, e2⟩ := foA_ok z1
    have hr := rpos_le x1 z
    rw [e1] at z2 hr ⊢
    exact ⟨e2, by have z2 : (foX U k (.inr p)).2.length + p.1 ≤ rpos (foX U k (.inr p)).1 := z2; have hr : rpos (foX U k (.inr p)).1 ≤ U.1 := hr; show flen B + (foX U k (.inr p)).2.length < 1620; omega⟩
  have fin : ∀ σ1, CTt σ1 U (foA k a (.inr p, B)) → CF cTt σ σ1 → Ev l X (d + 41) 89 24 [.ref 317, .int (nI a), .int (nI k)] [] 400 400 400 ρ σ1 (StF U q ρ σ (foR U k a (.inr p, B))) := by
    intro σ1 s1 c1
    have hs1 : ∀ r, r ≤ 14 → σ1.1 (q + r) = σ.1 (q + r) := fun r hr => funext fun j => c1.1 _ _ (cTt_f (by omega))
    have hc2 : CF (fun k _ => cBq q k) σ1 (sI σ1 (q + 13) (upd (σ1.1 (q + 13)) k (nI (flen B)))) := cf_cell _ (by decide)
    have s2 := s1.bq hq hc2
    have he1 : ∀ r, r ≤ 14 → r ≠ 13 → (sI σ1 (q + 13) (upd (σ1.1 (q + 13)) k (nI (flen B)))).1 (q + r) = σ.1 (q + r) := fun r h1 h2 => by rw [sR_1 _ _ (by omega), hs1 r h1]
    have he2 : (sI σ1 (q + 13) (upd (σ1.1 (q + 13)) k (nI (flen B)))).1 (q + 13) = upd (σ.1 (q + 13)) k (nI (flen B)) := by rw [sR_0, hs1 13 (by decide)]
    have hC : COr (sI σ1 (q + 13) (upd (σ1.1 (q + 13)) k (nI (flen B)))) (q + 10) (flen B) [] := ⟨by omega, by rw [he1 10 (by decide) (by decide), gs]; show _ = nI (if flen B + 0 < 1620 then flen B + 0 else 1620); rw [if_pos (by omega)]; rfl, fun j hj => absurd hj (Nat.not_lt_zero j)⟩
    have hcc := (cTt_b (q := q) c1).tr (cB_b hc2)
    by_cases hk3 : k = 3
    · have e3 : foX U k (foA k a (.inr p, B)) = (lvl U k 6).2.1 (foA k a (.inr p, B), []) := if_pos hk3
      show Ev l X (d + 41) 89 24 [.ref 317, .int (nI a), .int (nI k)] [] 400 400 400 ρ σ1 (StF U q ρ σ ((foX U k (foA k a (.inr p, B))).1, adF B k (foX U k (foA k a (.inr p, B))).2))
      rw [e3] at hok ⊢
      refine Ev_aload rfl rfl rfl ?_
      refine Ev_getR rfl (by first | rfl | assumption) hb ?_
      refine Ev_getR rfl (by first | rfl | assumption) (by first | exact hρ rfl | assumption) ?_
      refine Ev_iload rfl rfl ?_
      refine Ev_aload rfl rfl rfl ?_
      refine Ev_getR rfl (by first | rfl | assumption) hb ?_
      refine Ev_getR rfl (by first | rfl | assumption) (by first | exact hρ rfl | assumption) ?_
      refine Ev_getI rfl (by first | rfl | assumption) ?_
      refine Ev_norm (by rw [hs1 10 (by decide)]; exact gs : _ = nI (flen B)) ?_
      refine Ev_iast rfl (by first | rfl | assumption) (by rw [s13]; exact vp_in_nI (n := k) (show k < 4 by omega) (by decide)) ?_
      rw [nI_clamp (show k < 2 ^ 31 by omega)]
      refine Ev_iload rfl rfl ?_
      refine Ev_const rfl ?_
      refine Ev_icmp_ne rfl (fun h45 => absurd (show nI k = 3 by rw [hk3]; rfl) h45) (fun h45 => ?_)
      refine Ev_aload rfl rfl rfl ?_
      refine Ev_getR rfl (by first | rfl | assumption) (hρ _ _ _ rfl) ?_
      refine Ev_aload rfl rfl rfl ?_
      refine Ev_getR rfl (by first | rfl | assumption) hb ?_
      refine Ev_getR rfl (by first | rfl | assumption) (by first | exact hρ rfl | assumption) ?_
      refine Ev_iload rfl rfl ?_
      refine Ev_callV rfl rfl rfl rfl rfl (same_n 400) (t_readTest _ hρ hT hOk (by omega) s2 hC) ?_
      rintro v60 ρ60 σ60 ⟨rfl, r60, s60, o60, c60⟩
      refine Ev_goto rfl ?_
      exact t_foEnd _ (p := p) hq hρ hb hB hk (by omega) H hcc he1 he2 r60 s60 o60 c60 hok
    · have e3 : foX U k (foA k a (.inr p, B)) = (lvl U k 6).2.2.1 (foA k a (.inr p, B), []) := if_neg hk3
      show Ev l X (d + 41) 89 24 [.ref 317, .int (nI a), .int (nI k)] [] 400 400 400 ρ σ1 (StF U q ρ σ ((foX U k (foA k a (.inr p, B))).1, adF B k (foX U k (foA k a (.inr p, B))).2))
      rw [e3] at hok ⊢
      refine Ev_aload rfl rfl rfl ?_
      refine Ev_getR rfl (by first | rfl | assumption) hb ?_
      refine Ev_getR rfl (by first | rfl | assumption) (by first | exact hρ rfl | assumption) ?_
      refine Ev_iload rfl rfl ?_
      refine Ev_aload rfl rfl rfl ?_
      refine Ev_getR rfl (by first | rfl | assumption) hb ?_
      refine Ev_getR rfl (by first | rfl | assumption) (by first | exact hρ rfl | assumption) ?_
      refine Ev_getI rfl (by first | rfl | assumption) ?_
      refine Ev_norm (by rw [hs1 10 (by decide)]; exact gs : _ = nI (flen B)) ?_
      refine Ev_iast rfl (by first | rfl | assumption) (by rw [s13]; exact vp_in_nI (n := k) (show k < 4 by omega) (by decide)) ?_
      rw [nI_clamp (show k < 2 ^ 31 by omega)]
      refine Ev_iload rfl rfl ?_
      refine Ev_const rfl ?_
      refine Ev_icmp_ne rfl (fun h45 => ?_) (fun h45 => absurd (fun z => hk3 ((nI_eq (b := 3) (by omega) (by decide)).mp z)) h45)
      refine Ev_aload rfl rfl rfl ?_
      refine Ev_getR rfl (by first | rfl | assumption) (hρ _ _ _ rfl) ?_
      refine Ev_aload rfl rfl rfl ?_
      refine Ev_getR rfl (by first | rfl | assumption) hb ?_
      refine Ev_getR rfl (by first | rfl | assumption) (by first | exact hρ rfl | assumption) ?_
      refine Ev_iload rfl rfl ?_
      refine Ev_callV rfl rfl rfl rfl rfl (same_n 400) (t_readSum _ hρ hT hOk (by omega) hk3 s2 hC) ?_
      rintro v78 ρ78 σ78 ⟨rfl, r78, s78, o78, c78⟩
      exact t_foEnd _ (p := p) hq hρ hb hB hk (by omega) H hcc he1 he2 r78 s78 o78 c78 hok
  cases hfr : frm B k with
  | none =>
    rw [hfr] at gf
    have gf : σ.1 (q + 13) k = -1 := gf
    have eA : foA k a (.inr p, B) = roomS 0 1 a (.inr p) := by
      unfold foA roomS
      show (if frm B k = none then _ else _) = _
      rw [if_pos hfr, if_neg (by decide)]
    refine T_of rfl ?_
    refine Ev_aload rfl rfl rfl ?_
    refine Ev_aload rfl rfl rfl ?_
    refine Ev_getR rfl (by first | rfl | assumption) hb ?_
    refine Ev_getR rfl (by first | rfl | assumption) (by first | exact hρ rfl | assumption) ?_
    refine Ev_iload rfl rfl ?_
    refine Ev_iald rfl (by first | rfl | assumption) (by rw [s13]; exact vp_in_nI (n := k) (show k < 4 by omega) (by decide)) ?_
    refine Ev_norm (by rw [nI_clamp (by omega)]; exact gf : _ = (-1 : Int32)) ?_
    refine Ev_const rfl ?_
    refine Ev_icmp_ne rfl (fun h11 => absurd rfl h11) (fun h11 => ?_)
    refine Ev_const rfl ?_
    refine Ev_goto rfl ?_
    refine Ev_const rfl ?_
    refine Ev_iload rfl rfl ?_
    refine Ev_callV rfl rfl rfl rfl rfl (same_n 400) (t_askRoom _ (n := 0) (most := 1) (a := a) hρ (by decide) (by decide) Ht) ?_
    rintro v21 ρ21 σ21 ⟨rfl, e21, s21, c21⟩
    obtain rfl := e21.symm
    exact fin σ21 (by rw [eA]; exact s21) c21
  | some cs =>
    rw [hfr] at gf
    obtain ⟨a', b', g1, g2, g3, g4, g5⟩ := gf
    have eA : foA k a (.inr p, B) = roomS 1 1 a (.inr p) := by
      unfold foA roomS
      show (if frm B k = none then _ else _) = _
      rw [if_neg (by rw [hfr]; intro z; cases z), if_pos (by decide)]
    refine T_of rfl ?_
    refine Ev_aload rfl rfl rfl ?_
    refine Ev_aload rfl rfl rfl ?_
    refine Ev_getR rfl (by first | rfl | assumption) hb ?_
    refine Ev_getR rfl (by first | rfl | assumption) (by first | exact hρ rfl | assumption) ?_
    refine Ev_iload rfl rfl ?_
    refine Ev_iald rfl (by first | rfl | assumption) (by rw [s13]; exact vp_in_nI (n := k) (show k < 4 by omega) (by decide)) ?_
    refine Ev_norm (by rw [nI_clamp (by omega)]; exact g1 : _ = nI a') ?_
    refine Ev_const rfl ?_
    refine Ev_icmp_ne rfl (fun h11 => ?_) (fun h11 => absurd (nI_m1 (by omega)) h11)
    refine Ev_const rfl ?_
    refine Ev_const rfl ?_
    refine Ev_iload rfl rfl ?_
    refine Ev_callV rfl rfl rfl rfl rfl (same_n 400) (t_askRoom _ (n := 1) (most := 1) (a := a) hρ (by decide) (by decide) Ht) ?_
    rintro v21 ρ21 σ21 ⟨rfl, e21, s21, c21⟩
    obtain rfl := e21.symm
    exact fin σ21 (by rw [eA]; exact s21) c21
theorem t_hop0 (d : Nat) {σ : St} {p : Nat × Nat} {x : Int32} (hρ : RF ρ) (hT : TxW U) (hL : lkS U (.inr p) = .inr p) (H : CTt σ U (.inr p)) (hne : ¬ wAt U (.inr p) = kw 0) {Q : Po} (hQ : ∀ σ', CTt σ' U (.inr p) → CF cTt σ σ' → Ev l X (d + 42) 80 28 [.ref 317, .int x] [] 400 400 400 ρ σ' Q) :
    Ev l X (d + 42) 80 8 [.ref 317, .int x] [] 400 400 400 ρ σ Q := by
  refine Ev_aload rfl rfl rfl ?_
  refine Ev_getR rfl (by first | rfl | assumption) (hρ _ _ _ rfl) ?_
  refine Ev_str rfl ?_
  refine Ev_callV rfl rfl rfl rfl rfl (same_n 400) (t_takeWord _ (q := 0) hρ hT (by decide) (wl_l (by decide) (by decide)) (wl_ok 0 (by decide) (by decide)).2 H) ?_
  rintro v14 ρ14 σ14 ⟨rfl, e1, s1, c1⟩
  refine Ev_norm (by rw [kw_wl 0 (by decide), decide_eq_false hne] : _ = bI false) ?_
  obtain rfl := e1.symm
  rw [kw_wl 0 (by decide), tWd_n hne, hL] at s1
  refine Ev_if_eq rfl (fun h17 => ?_) (fun h17 => absurd rfl h17)
  exact hQ _ s1 c1
theorem t_hit0 (d : Nat) {σ : St} {p : Nat × Nat} (hq : q = 2 ∨ q = 17) (hρ : RF ρ) (hb : ρ 317 2 = some q) (hT : TxW U) (hB : WfB B) (hfl : flen B ≤ p.1) (hf : flen B ≤ 1620) (hI : Ivr U (.inr p)) (hL : lkS U (.inr p) = .inr p) (H0 : CNew σ q B) (H : CTt σ U (.inr p)) (hw : wAt U (.inr p) = kw 0) :
    Ev l X (d + 42) 80 8 [.ref 317, .int (nI p.1)] [] 400 400 400 ρ σ (StF U q ρ σ (idR U p.1 (tWd U (kw 0) (.inr p), B))) := by
  refine Ev_aload rfl rfl rfl ?_
  refine Ev_getR rfl (by first | rfl | assumption) (hρ _ _ _ rfl) ?_
  refine Ev_str rfl ?_
  refine Ev_callV rfl rfl rfl rfl rfl (same_n 400) (t_takeWord _ (q := 0) hρ hT (by decide) (wl_l (by decide) (by decide)) (wl_ok 0 (by decide) (by decide)).2 H) ?_
  rintro v14 ρ14 σ14 ⟨rfl, e1, s1, c1⟩
  refine Ev_norm (by rw [kw_wl 0 (by decide), decide_eq_true hw] : _ = bI true) ?_
  obtain rfl := e1.symm
  rw [kw_wl 0 (by decide)] at s1
  refine Ev_if_eq rfl (fun h17 => absurd h17 (show ¬ bI true = 0 by decide)) (fun h17 => ?_)
  refine Ev_aload rfl rfl rfl ?_
  refine Ev_iload rfl rfl ?_
  refine Ev_callV rfl rfl rfl rfl rfl (same_n 400) (t_readIdea _ hq hρ hb hT hB hf (H0.tt hq c1) s1) ?_
  rintro v22 ρ22 σ22 ⟨rfl, e2, h2⟩
  obtain rfl := e2.symm
  refine Ev_goto rfl ?_
  exact Ev_return rfl rfl rfl (StC.f hρ ⟨rfl, rfl, h2.1, h2.2.1, h2.2.2.1, (cTt_b c1).tr h2.2.2.2⟩)
theorem t_hop3 (d : Nat) {σ : St} {p : Nat × Nat} {x : Int32} (hρ : RF ρ) (hT : TxW U) (hL : lkS U (.inr p) = .inr p) (H : CTt σ U (.inr p)) (hne : ¬ wAt U (.inr p) = kw 3) {Q : Po} (hQ : ∀ σ', CTt σ' U (.inr p) → CF cTt σ σ' → Ev l X (d + 42) 80 48 [.ref 317, .int x] [] 400 400 400 ρ σ' Q) :
    Ev l X (d + 42) 80 28 [.ref 317, .int x] [] 400 400 400 ρ σ Q := by
  refine Ev_aload rfl rfl rfl ?_
  refine Ev_getR rfl (by first | rfl | assumption) (hρ _ _ _ rfl) ?_
  refine Ev_str rfl ?_
  refine Ev_callV rfl rfl rfl rfl rfl (same_n 400) (t_takeWord _ (q := 3) hρ hT (by decide) (wl_l (by decide) (by decide)) (wl_ok 3 (by decide) (by decide)).2 H) ?_
  rintro v34 ρ34 σ34 ⟨rfl, e1, s1, c1⟩
  refine Ev_norm (by rw [kw_wl 3 (by decide), decide_eq_false hne] : _ = bI false) ?_
  obtain rfl := e1.symm
  rw [kw_wl 3 (by decide), tWd_n hne, hL] at s1
  refine Ev_if_eq rfl (fun h37 => ?_) (fun h37 => absurd rfl h37)
  exact hQ _ s1 c1
theorem t_hit3 (d : Nat) {σ : St} {p : Nat × Nat} (hq : q = 2 ∨ q = 17) (hρ : RF ρ) (hb : ρ 317 2 = some q) (hT : TxW U) (hB : WfB B) (hfl : flen B ≤ p.1) (hf : flen B ≤ 1620) (hI : Ivr U (.inr p)) (hL : lkS U (.inr p) = .inr p) (H0 : CNew σ q B) (H : CTt σ U (.inr p)) (hw : wAt U (.inr p) = kw 3) :
    Ev l X (d + 42) 80 28 [.ref 317, .int (nI p.1)] [] 400 400 400 ρ σ (StF U q ρ σ (ndR U p.1 (tWd U (kw 3) (.inr p), B))) := by
  refine Ev_aload rfl rfl rfl ?_
  refine Ev_getR rfl (by first | rfl | assumption) (hρ _ _ _ rfl) ?_
  refine Ev_str rfl ?_
  refine Ev_callV rfl rfl rfl rfl rfl (same_n 400) (t_takeWord _ (q := 3) hρ hT (by decide) (wl_l (by decide) (by decide)) (wl_ok 3 (by decide) (by decide)).2 H) ?_
  rintro v34 ρ34 σ34 ⟨rfl, e1, s1, c1⟩
  refine Ev_norm (by rw [kw_wl 3 (by decide), decide_eq_true hw] : _ = bI true) ?_
  obtain rfl := e1.symm
  rw [kw_wl 3 (by decide)] at s1
  refine Ev_if_eq rfl (fun h37 => absurd h37 (show ¬ bI true = 0 by decide)) (fun h37 => ?_)
  refine Ev_aload rfl rfl rfl ?_
  refine Ev_iload rfl rfl ?_
  refine Ev_callV rfl rfl rfl rfl rfl (same_n 400) (t_readNeed _ hq hρ hb hT hB hf (H0.tt hq c1) s1) ?_
  rintro v42 ρ42 σ42 ⟨rfl, e2, h2⟩
  obtain rfl := e2.symm
  refine Ev_goto rfl ?_
  exact Ev_return rfl rfl rfl (StC.f hρ ⟨rfl, rfl, h2.1, h2.2.1, h2.2.2.1, (cTt_b c1).tr h2.2.2.2⟩)
theorem t_hop5 (d : Nat) {σ : St} {p : Nat × Nat} {x : Int32} (hρ : RF ρ) (hT : TxW U) (hL : lkS U (.inr p) = .inr p) (H : CTt σ U (.inr p)) (hne : ¬ wAt U (.inr p) = kw 5) {Q : Po} (hQ : ∀ σ', CTt σ' U (.inr p) → CF cTt σ σ' → Ev l X (d + 42) 80 68 [.ref 317, .int x] [] 400 400 400 ρ σ' Q) :
    Ev l X (d + 42) 80 48 [.ref 317, .int x] [] 400 400 400 ρ σ Q := by
  refine Ev_aload rfl rfl rfl ?_
  refine Ev_getR rfl (by first | rfl | assumption) (hρ _ _ _ rfl) ?_
  refine Ev_str rfl ?_
  refine Ev_callV rfl rfl rfl rfl rfl (same_n 400) (t_takeWord _ (q := 5) hρ hT (by decide) (wl_l (by decide) (by decide)) (wl_ok 5 (by decide) (by decide)).2 H) ?_
  rintro v54 ρ54 σ54 ⟨rfl, e1, s1, c1⟩
  refine Ev_norm (by rw [kw_wl 5 (by decide), decide_eq_false hne] : _ = bI false) ?_
  obtain rfl := e1.symm
  rw [kw_wl 5 (by decide), tWd_n hne, hL] at s1
  refine Ev_if_eq rfl (fun h57 => ?_) (fun h57 => absurd rfl h57)
  exact hQ _ s1 c1
theorem t_hit5 (d : Nat) {σ : St} {p : Nat × Nat} (hq : q = 2 ∨ q = 17) (hρ : RF ρ) (hb : ρ 317 2 = some q) (hT : TxW U) (hB : WfB B) (hfl : flen B ≤ p.1) (hf : flen B ≤ 1620) (hI : Ivr U (.inr p)) (hL : lkS U (.inr p) = .inr p) (H0 : CNew σ q B) (H : CTt σ U (.inr p)) (hw : wAt U (.inr p) = kw 5) :
    Ev l X (d + 42) 80 48 [.ref 317, .int (nI p.1)] [] 400 400 400 ρ σ (StF U q ρ σ (btR U p.1 (tWd U (kw 5) (.inr p), B))) := by
  refine Ev_aload rfl rfl rfl ?_
  refine Ev_getR rfl (by first | rfl | assumption) (hρ _ _ _ rfl) ?_
  refine Ev_str rfl ?_
  refine Ev_callV rfl rfl rfl rfl rfl (same_n 400) (t_takeWord _ (q := 5) hρ hT (by decide) (wl_l (by decide) (by decide)) (wl_ok 5 (by decide) (by decide)).2 H) ?_
  rintro v54 ρ54 σ54 ⟨rfl, e1, s1, c1⟩
  refine Ev_norm (by rw [kw_wl 5 (by decide), decide_eq_true hw] : _ = bI true) ?_
  obtain rfl := e1.symm
  rw [kw_wl 5 (by decide)] at s1
  refine Ev_if_eq rfl (fun h57 => absurd h57 (show ¬ bI true = 0 by decide)) (fun h57 => ?_)
  refine Ev_aload rfl rfl rfl ?_
  refine Ev_iload rfl rfl ?_
  refine Ev_callV rfl rfl rfl rfl rfl (same_n 400) (t_readBather _ hq hρ hb hT hB hf (H0.tt hq c1) s1) ?_
  rintro v62 ρ62 σ62 ⟨rfl, e2, h2⟩
  obtain rfl := e2.symm
  refine Ev_goto rfl ?_
  exact Ev_return rfl rfl rfl (StC.f hρ ⟨rfl, rfl, h2.1, h2.2.1, h2.2.2.1, (cTt_b c1).tr h2.2.2.2⟩)
theorem t_hop8 (d : Nat) {σ : St} {p : Nat × Nat} {x : Int32} (hρ : RF ρ) (hT : TxW U) (hL : lkS U (.inr p) = .inr p) (H : CTt σ U (.inr p)) (hne : ¬ wAt U (.inr p) = kw 8) {Q : Po} (hQ : ∀ σ', CTt σ' U (.inr p) → CF cTt σ σ' → Ev l X (d + 42) 80 88 [.ref 317, .int x] [] 400 400 400 ρ σ' Q) :
    Ev l X (d + 42) 80 68 [.ref 317, .int x] [] 400 400 400 ρ σ Q := by
  refine Ev_aload rfl rfl rfl ?_
  refine Ev_getR rfl (by first | rfl | assumption) (hρ _ _ _ rfl) ?_
  refine Ev_str rfl ?_
  refine Ev_callV rfl rfl rfl rfl rfl (same_n 400) (t_takeWord _ (q := 8) hρ hT (by decide) (wl_l (by decide) (by decide)) (wl_ok 8 (by decide) (by decide)).2 H) ?_
  rintro v74 ρ74 σ74 ⟨rfl, e1, s1, c1⟩
  refine Ev_norm (by rw [kw_wl 8 (by decide), decide_eq_false hne] : _ = bI false) ?_
  obtain rfl := e1.symm
  rw [kw_wl 8 (by decide), tWd_n hne, hL] at s1
  refine Ev_if_eq rfl (fun h77 => ?_) (fun h77 => absurd rfl h77)
  exact hQ _ s1 c1
theorem t_hit8 (d : Nat) {σ : St} {p : Nat × Nat} (hq : q = 2 ∨ q = 17) (hρ : RF ρ) (hb : ρ 317 2 = some q) (hT : TxW U) (hB : WfB B) (hfl : flen B ≤ p.1) (hf : flen B ≤ 1620) (hI : Ivr U (.inr p)) (hL : lkS U (.inr p) = .inr p) (H0 : CNew σ q B) (H : CTt σ U (.inr p)) (hw : wAt U (.inr p) = kw 8) :
    Ev l X (d + 42) 80 68 [.ref 317, .int (nI p.1)] [] 400 400 400 ρ σ (StF U q ρ σ (plR U p.1 (tWd U (kw 8) (.inr p), B))) := by
  refine Ev_aload rfl rfl rfl ?_
  refine Ev_getR rfl (by first | rfl | assumption) (hρ _ _ _ rfl) ?_
  refine Ev_str rfl ?_
  refine Ev_callV rfl rfl rfl rfl rfl (same_n 400) (t_takeWord _ (q := 8) hρ hT (by decide) (wl_l (by decide) (by decide)) (wl_ok 8 (by decide) (by decide)).2 H) ?_
  rintro v74 ρ74 σ74 ⟨rfl, e1, s1, c1⟩
  refine Ev_norm (by rw [kw_wl 8 (by decide), decide_eq_true hw] : _ = bI true) ?_
  obtain rfl := e1.symm
  rw [kw_wl 8 (by decide)] at s1
  refine Ev_if_eq rfl (fun h77 => absurd h77 (show ¬ bI true = 0 by decide)) (fun h77 => ?_)
  refine Ev_aload rfl rfl rfl ?_
  refine Ev_iload rfl rfl ?_
  refine Ev_callV rfl rfl rfl rfl rfl (same_n 400) (t_readRow _ hq hρ hb hT hB hf (H0.tt hq c1) s1) ?_
  rintro v82 ρ82 σ82 ⟨rfl, e2, h2⟩
  obtain rfl := e2.symm
  refine Ev_goto rfl ?_
  exact Ev_return rfl rfl rfl (StC.f hρ ⟨rfl, rfl, h2.1, h2.2.1, h2.2.2.1, (cTt_b c1).tr h2.2.2.2⟩)
theorem t_hop10 (d : Nat) {σ : St} {p : Nat × Nat} {x : Int32} (hρ : RF ρ) (hT : TxW U) (hL : lkS U (.inr p) = .inr p) (H : CTt σ U (.inr p)) (hne : ¬ wAt U (.inr p) = kw 10) {Q : Po} (hQ : ∀ σ', CTt σ' U (.inr p) → CF cTt σ σ' → Ev l X (d + 42) 80 109 [.ref 317, .int x] [] 400 400 400 ρ σ' Q) :
    Ev l X (d + 42) 80 88 [.ref 317, .int x] [] 400 400 400 ρ σ Q := by
  refine Ev_aload rfl rfl rfl ?_
  refine Ev_getR rfl (by first | rfl | assumption) (hρ _ _ _ rfl) ?_
  refine Ev_str rfl ?_
  refine Ev_callV rfl rfl rfl rfl rfl (same_n 400) (t_takeWord _ (q := 10) hρ hT (by decide) (wl_l (by decide) (by decide)) (wl_ok 10 (by decide) (by decide)).2 H) ?_
  rintro v94 ρ94 σ94 ⟨rfl, e1, s1, c1⟩
  refine Ev_norm (by rw [kw_wl 10 (by decide), decide_eq_false hne] : _ = bI false) ?_
  obtain rfl := e1.symm
  rw [kw_wl 10 (by decide), tWd_n hne, hL] at s1
  refine Ev_if_eq rfl (fun h97 => ?_) (fun h97 => absurd rfl h97)
  exact hQ _ s1 c1
theorem t_hit10 (d : Nat) {σ : St} {p : Nat × Nat} (hq : q = 2 ∨ q = 17) (hρ : RF ρ) (hb : ρ 317 2 = some q) (hT : TxW U) (hB : WfB B) (hfl : flen B ≤ p.1) (hf : flen B ≤ 1620) (hI : Ivr U (.inr p)) (hL : lkS U (.inr p) = .inr p) (H0 : CNew σ q B) (H : CTt σ U (.inr p)) (hw : wAt U (.inr p) = kw 10) :
    Ev l X (d + 42) 80 88 [.ref 317, .int (nI p.1)] [] 400 400 400 ρ σ (StF U q ρ σ (foR U 0 p.1 (tWd U (kw 10) (.inr p), B))) := by
  refine Ev_aload rfl rfl rfl ?_
  refine Ev_getR rfl (by first | rfl | assumption) (hρ _ _ _ rfl) ?_
  refine Ev_str rfl ?_
  refine Ev_callV rfl rfl rfl rfl rfl (same_n 400) (t_takeWord _ (q := 10) hρ hT (by decide) (wl_l (by decide) (by decide)) (wl_ok 10 (by decide) (by decide)).2 H) ?_
  rintro v94 ρ94 σ94 ⟨rfl, e1, s1, c1⟩
  refine Ev_norm (by rw [kw_wl 10 (by decide), decide_eq_true hw] : _ = bI true) ?_
  obtain rfl := e1.symm
  rw [kw_wl 10 (by decide)] at s1
  refine Ev_if_eq rfl (fun h97 => absurd h97 (show ¬ bI true = 0 by decide)) (fun h97 => ?_)
  have hw2 := wf_tW (x := (.inr p, B)) (by decide) hw ⟨hI, fun _ => ⟨hB, hfl⟩⟩
  obtain ⟨p2, hp2⟩ : ∃ p2, tWd U (kw 10) (.inr p) = .inr p2 := ⟨_, by rw [tWd_y hw, hL]; rfl⟩
  have hwI : Ivr U (tWd U (kw 10) (.inr p)) := hw2.1
  have hwf : flen B ≤ rpos (tWd U (kw 10) (.inr p)) := (hw2.2 (by show isOk (tWd U (kw 10) (.inr p)) = true; rw [hp2]; rfl)).2
  have H1 := H0.tt hq c1
  rw [hp2] at hwI hwf s1 ⊢
  refine Ev_aload rfl rfl rfl ?_
  refine Ev_iload rfl rfl ?_
  refine Ev_const rfl ?_
  refine Ev_callV rfl rfl rfl rfl rfl (same_n 400) (t_readFormula _ (k := 0) hq hρ hb hT hB (by decide) hwI hwf H1 s1) ?_
  rintro v103 ρ103 σ103 ⟨rfl, e2, h2⟩
  refine Ev_goto rfl ?_
  exact Ev_return rfl rfl rfl ⟨rfl, e2, h2.1, h2.2.1, h2.2.2.1, (cTt_b c1).tr h2.2.2.2⟩
theorem t_hop28 (d : Nat) {σ : St} {p : Nat × Nat} {x : Int32} (hρ : RF ρ) (hT : TxW U) (hL : lkS U (.inr p) = .inr p) (H : CTt σ U (.inr p)) (hne : ¬ wAt U (.inr p) = kw 28) {Q : Po} (hQ : ∀ σ', CTt σ' U (.inr p) → CF cTt σ σ' → Ev l X (d + 42) 80 130 [.ref 317, .int x] [] 400 400 400 ρ σ' Q) :
    Ev l X (d + 42) 80 109 [.ref 317, .int x] [] 400 400 400 ρ σ Q := by
  refine Ev_aload rfl rfl rfl ?_
  refine Ev_getR rfl (by first | rfl | assumption) (hρ _ _ _ rfl) ?_
  refine Ev_str rfl ?_
  refine Ev_callV rfl rfl rfl rfl rfl (same_n 400) (t_takeWord _ (q := 28) hρ hT (by decide) (wl_l (by decide) (by decide)) (wl_ok 28 (by decide) (by decide)).2 H) ?_
  rintro v115 ρ115 σ115 ⟨rfl, e1, s1, c1⟩
  refine Ev_norm (by rw [kw_wl 28 (by decide), decide_eq_false hne] : _ = bI false) ?_
  obtain rfl := e1.symm
  rw [kw_wl 28 (by decide), tWd_n hne, hL] at s1
  refine Ev_if_eq rfl (fun h118 => ?_) (fun h118 => absurd rfl h118)
  exact hQ _ s1 c1
theorem t_hit28 (d : Nat) {σ : St} {p : Nat × Nat} (hq : q = 2 ∨ q = 17) (hρ : RF ρ) (hb : ρ 317 2 = some q) (hT : TxW U) (hB : WfB B) (hfl : flen B ≤ p.1) (hf : flen B ≤ 1620) (hI : Ivr U (.inr p)) (hL : lkS U (.inr p) = .inr p) (H0 : CNew σ q B) (H : CTt σ U (.inr p)) (hw : wAt U (.inr p) = kw 28) :
    Ev l X (d + 42) 80 109 [.ref 317, .int (nI p.1)] [] 400 400 400 ρ σ (StF U q ρ σ (foR U 1 p.1 (tWd U (kw 28) (.inr p), B))) := by
  refine Ev_aload rfl rfl rfl ?_
  refine Ev_getR rfl (by first | rfl | assumption) (hρ _ _ _ rfl) ?_
  refine Ev_str rfl ?_
  refine Ev_callV rfl rfl rfl rfl rfl (same_n 400) (t_takeWord _ (q := 28) hρ hT (by decide) (wl_l (by decide) (by decide)) (wl_ok 28 (by decide) (by decide)).2 H) ?_
  rintro v115 ρ115 σ115 ⟨rfl, e1, s1, c1⟩
  refine Ev_norm (by rw [kw_wl 28 (by decide), decide_eq_true hw] : _ = bI true) ?_
  obtain rfl := e1.symm
  rw [kw_wl 28 (by decide)] at s1
  refine Ev_if_eq rfl (fun h118 => absurd h118 (show ¬ bI true = 0 by decide)) (fun h118 => ?_)
  have hw2 := wf_tW (x := (.inr p, B)) (by decide) hw ⟨hI, fun _ => ⟨hB, hfl⟩⟩
  obtain ⟨p2, hp2⟩ : ∃ p2, tWd U (kw 28) (.inr p) = .inr p2 := ⟨_, by rw [tWd_y hw, hL]; rfl⟩
  have hwI : Ivr U (tWd U (kw 28) (.inr p)) := hw2.1
  have hwf : flen B ≤ rpos (tWd U (kw 28) (.inr p)) := (hw2.2 (by show isOk (tWd U (kw 28) (.inr p)) = true; rw [hp2]; rfl)).2
  have H1 := H0.tt hq c1
  rw [hp2] at hwI hwf s1 ⊢
  refine Ev_aload rfl rfl rfl ?_
  refine Ev_iload rfl rfl ?_
  refine Ev_const rfl ?_
  refine Ev_callV rfl rfl rfl rfl rfl (same_n 400) (t_readFormula _ (k := 1) hq hρ hb hT hB (by decide) hwI hwf H1 s1) ?_
  rintro v124 ρ124 σ124 ⟨rfl, e2, h2⟩
  refine Ev_goto rfl ?_
  exact Ev_return rfl rfl rfl ⟨rfl, e2, h2.1, h2.2.1, h2.2.2.1, (cTt_b c1).tr h2.2.2.2⟩
theorem t_hop29 (d : Nat) {σ : St} {p : Nat × Nat} {x : Int32} (hρ : RF ρ) (hT : TxW U) (hL : lkS U (.inr p) = .inr p) (H : CTt σ U (.inr p)) (hne : ¬ wAt U (.inr p) = kw 29) {Q : Po} (hQ : ∀ σ', CTt σ' U (.inr p) → CF cTt σ σ' → Ev l X (d + 42) 80 151 [.ref 317, .int x] [] 400 400 400 ρ σ' Q) :
    Ev l X (d + 42) 80 130 [.ref 317, .int x] [] 400 400 400 ρ σ Q := by
  refine Ev_aload rfl rfl rfl ?_
  refine Ev_getR rfl (by first | rfl | assumption) (hρ _ _ _ rfl) ?_
  refine Ev_str rfl ?_
  refine Ev_callV rfl rfl rfl rfl rfl (same_n 400) (t_takeWord _ (q := 29) hρ hT (by decide) (wl_l (by decide) (by decide)) (wl_ok 29 (by decide) (by decide)).2 H) ?_
  rintro v136 ρ136 σ136 ⟨rfl, e1, s1, c1⟩
  refine Ev_norm (by rw [kw_wl 29 (by decide), decide_eq_false hne] : _ = bI false) ?_
  obtain rfl := e1.symm
  rw [kw_wl 29 (by decide), tWd_n hne, hL] at s1
  refine Ev_if_eq rfl (fun h139 => ?_) (fun h139 => absurd rfl h139)
  exact hQ _ s1 c1
theorem t_hit29 (d : Nat) {σ : St} {p : Nat × Nat} (hq : q = 2 ∨ q = 17) (hρ : RF ρ) (hb : ρ 317 2 = some q) (hT : TxW U) (hB : WfB B) (hfl : flen B ≤ p.1) (hf : flen B ≤ 1620) (hI : Ivr U (.inr p)) (hL : lkS U (.inr p) = .inr p) (H0 : CNew σ q B) (H : CTt σ U (.inr p)) (hw : wAt U (.inr p) = kw 29) :
    Ev l X (d + 42) 80 130 [.ref 317, .int (nI p.1)] [] 400 400 400 ρ σ (StF U q ρ σ (foR U 2 p.1 (tWd U (kw 29) (.inr p), B))) := by
  refine Ev_aload rfl rfl rfl ?_
  refine Ev_getR rfl (by first | rfl | assumption) (hρ _ _ _ rfl) ?_
  refine Ev_str rfl ?_
  refine Ev_callV rfl rfl rfl rfl rfl (same_n 400) (t_takeWord _ (q := 29) hρ hT (by decide) (wl_l (by decide) (by decide)) (wl_ok 29 (by decide) (by decide)).2 H) ?_
  rintro v136 ρ136 σ136 ⟨rfl, e1, s1, c1⟩
  refine Ev_norm (by rw [kw_wl 29 (by decide), decide_eq_true hw] : _ = bI true) ?_
  obtain rfl := e1.symm
  rw [kw_wl 29 (by decide)] at s1
  refine Ev_if_eq rfl (fun h139 => absurd h139 (show ¬ bI true = 0 by decide)) (fun h139 => ?_)
  have hw2 := wf_tW (x := (.inr p, B)) (by decide) hw ⟨hI, fun _ => ⟨hB, hfl⟩⟩
  obtain ⟨p2, hp2⟩ : ∃ p2, tWd U (kw 29) (.inr p) = .inr p2 := ⟨_, by rw [tWd_y hw, hL]; rfl⟩
  have hwI : Ivr U (tWd U (kw 29) (.inr p)) := hw2.1
  have hwf : flen B ≤ rpos (tWd U (kw 29) (.inr p)) := (hw2.2 (by show isOk (tWd U (kw 29) (.inr p)) = true; rw [hp2]; rfl)).2
  have H1 := H0.tt hq c1
  rw [hp2] at hwI hwf s1 ⊢
  refine Ev_aload rfl rfl rfl ?_
  refine Ev_iload rfl rfl ?_
  refine Ev_const rfl ?_
  refine Ev_callV rfl rfl rfl rfl rfl (same_n 400) (t_readFormula _ (k := 2) hq hρ hb hT hB (by decide) hwI hwf H1 s1) ?_
  rintro v145 ρ145 σ145 ⟨rfl, e2, h2⟩
  refine Ev_goto rfl ?_
  exact Ev_return rfl rfl rfl ⟨rfl, e2, h2.1, h2.2.1, h2.2.2.1, (cTt_b c1).tr h2.2.2.2⟩
theorem t_hop30 (d : Nat) {σ : St} {p : Nat × Nat} {x : Int32} (hρ : RF ρ) (hT : TxW U) (hL : lkS U (.inr p) = .inr p) (H : CTt σ U (.inr p)) (hne : ¬ wAt U (.inr p) = kw 30) {Q : Po} (hQ : ∀ σ', CTt σ' U (.inr p) → CF cTt σ σ' → Ev l X (d + 42) 80 172 [.ref 317, .int x] [] 400 400 400 ρ σ' Q) :
    Ev l X (d + 42) 80 151 [.ref 317, .int x] [] 400 400 400 ρ σ Q := by
  refine Ev_aload rfl rfl rfl ?_
  refine Ev_getR rfl (by first | rfl | assumption) (hρ _ _ _ rfl) ?_
  refine Ev_str rfl ?_
  refine Ev_callV rfl rfl rfl rfl rfl (same_n 400) (t_takeWord _ (q := 30) hρ hT (by decide) (wl_l (by decide) (by decide)) (wl_ok 30 (by decide) (by decide)).2 H) ?_
  rintro v157 ρ157 σ157 ⟨rfl, e1, s1, c1⟩
  refine Ev_norm (by rw [kw_wl 30 (by decide), decide_eq_false hne] : _ = bI false) ?_
  obtain rfl := e1.symm
  rw [kw_wl 30 (by decide), tWd_n hne, hL] at s1
  refine Ev_if_eq rfl (fun h160 => ?_) (fun h160 => absurd rfl h160)
  exact hQ _ s1 c1
theorem t_hit30 (d : Nat) {σ : St} {p : Nat × Nat} (hq : q = 2 ∨ q = 17) (hρ : RF ρ) (hb : ρ 317 2 = some q) (hT : TxW U) (hB : WfB B) (hfl : flen B ≤ p.1) (hf : flen B ≤ 1620) (hI : Ivr U (.inr p)) (hL : lkS U (.inr p) = .inr p) (H0 : CNew σ q B) (H : CTt σ U (.inr p)) (hw : wAt U (.inr p) = kw 30) :
    Ev l X (d + 42) 80 151 [.ref 317, .int (nI p.1)] [] 400 400 400 ρ σ (StF U q ρ σ (foR U 3 p.1 (tWd U (kw 30) (.inr p), B))) := by
  refine Ev_aload rfl rfl rfl ?_
  refine Ev_getR rfl (by first | rfl | assumption) (hρ _ _ _ rfl) ?_
  refine Ev_str rfl ?_
  refine Ev_callV rfl rfl rfl rfl rfl (same_n 400) (t_takeWord _ (q := 30) hρ hT (by decide) (wl_l (by decide) (by decide)) (wl_ok 30 (by decide) (by decide)).2 H) ?_
  rintro v157 ρ157 σ157 ⟨rfl, e1, s1, c1⟩
  refine Ev_norm (by rw [kw_wl 30 (by decide), decide_eq_true hw] : _ = bI true) ?_
  obtain rfl := e1.symm
  rw [kw_wl 30 (by decide)] at s1
  refine Ev_if_eq rfl (fun h160 => absurd h160 (show ¬ bI true = 0 by decide)) (fun h160 => ?_)
  have hw2 := wf_tW (x := (.inr p, B)) (by decide) hw ⟨hI, fun _ => ⟨hB, hfl⟩⟩
  obtain ⟨p2, hp2⟩ : ∃ p2, tWd U (kw 30) (.inr p) = .inr p2 := ⟨_, by rw [tWd_y hw, hL]; rfl⟩
  have hwI : Ivr U (tWd U (kw 30) (.inr p)) := hw2.1
  have hwf : flen B ≤ rpos (tWd U (kw 30) (.inr p)) := (hw2.2 (by show isOk (tWd U (kw 30) (.inr p)) = true; rw [hp2]; rfl)).2
  have H1 := H0.tt hq c1
  rw [hp2] at hwI hwf s1 ⊢
  refine Ev_aload rfl rfl rfl ?_
  refine Ev_iload rfl rfl ?_
  refine Ev_const rfl ?_
  refine Ev_callV rfl rfl rfl rfl rfl (same_n 400) (t_readFormula _ (k := 3) hq hρ hb hT hB (by decide) hwI hwf H1 s1) ?_
  rintro v166 ρ166 σ166 ⟨rfl, e2, h2⟩
  refine Ev_goto rfl ?_
  exact Ev_return rfl rfl rfl ⟨rfl, e2, h2.1, h2.2.1, h2.2.2.1, (cTt_b c1).tr h2.2.2.2⟩
theorem t_hitS (d : Nat) {σ : St} {p : Nat × Nat} (hq : q = 2 ∨ q = 17) (hρ : RF ρ) (hb : ρ 317 2 = some q) (hT : TxW U) (hB : WfB B) (hf : flen B ≤ 1620) (H0 : CNew σ q B) (H : CTt σ U (.inr p)) :
    Ev l X (d + 42) 80 172 [.ref 317, .int (nI p.1)] [] 400 400 400 ρ σ (StF U q ρ σ (sqR U (.inr p, B))) := by
  have bO := (bo hq hρ).1
  refine Ev_aload rfl rfl rfl ?_
  refine Ev_getR rfl (by first | rfl | assumption) (hρ _ _ _ rfl) ?_
  refine Ev_str rfl ?_
  refine Ev_callV rfl rfl rfl rfl rfl (same_n 400) (t_askWord _ (q := 31) hρ hT (by decide) (wl_l (by decide) (by decide)) (wl_ok 31 (by decide) (by decide)).2 H) ?_
  rintro v178 ρ178 σ178 ⟨rfl, e1, s1, c1⟩
  obtain rfl := e1.symm
  rw [kw_wl 31 (by decide)] at s1
  refine Ev_aload rfl rfl rfl ?_
  refine Ev_getR rfl (by first | rfl | assumption) hb ?_
  refine Ev_aload rfl rfl rfl ?_
  refine Ev_getR rfl (by first | rfl | assumption) (hρ _ _ _ rfl) ?_
  refine Ev_const rfl ?_
  refine Ev_callV rfl rfl rfl rfl rfl (same_n 400) (t_askNumber _ (most := 100) hρ hT (by decide) s1) ?_
  rintro v191 ρ191 σ191 ⟨rfl, e2, s2, c2⟩
  obtain rfl := e2.symm
  refine Ev_putI rfl (by first | rfl | assumption) ⟨rfl, rfl⟩ rfl ?_
  exact Ev_return rfl rfl rfl (by
  have H2 := (H0.tt hq c1).tt hq c2
  have hc3 : CF (fun k _ => cBq q k) σ191 (sI σ191 q (upd (σ191.1 q) 16 (nI (vNu U 100 (aWd U (kw 31) (.inr p)))))) := cf_cell (r := 0) _ (by decide)
  have hN : CNew (sI σ191 q (upd (σ191.1 q) 16 (nI (vNu U 100 (aWd U (kw 31) (.inr p)))))) q (adQ B (vNu U 100 (aWd U (kw 31) (.inr p)))) := by
    obtain ⟨⟨g0, g1, g2, g3, g4⟩, gi, gb, gp, gf, gs⟩ := H2
    have e : ∀ r, 1 ≤ r → r ≤ 14 → (sI σ191 q (upd (σ191.1 q) 16 (nI (vNu U 100 (aWd U (kw 31) (.inr p)))))).1 (q + r) = σ191.1 (q + r) := fun r h1 _ => sR_1 _ _ (by omega)
    refine ⟨⟨?_, ?_, ?_, ?_, ?_⟩, fun i hi => ?_, fun b hb => ?_, fun k hk => ?_, ?_, by rw [e 10 (by decide) (by decide)]; exact gs⟩
    · rw [sR_0, pk_un (by decide)]; exact g0
    · rw [sR_0, pk_un (by decide)]; exact g1
    · rw [sR_0, pk_un (by decide)]; exact g2
    · rw [sR_0, pk_un (by decide)]; exact g3
    · rw [sR_0, pk_us]; rfl
    · rw [e 1 (by decide) (by decide), e 2 (by decide) (by decide), e 3 (by decide) (by decide)]; exact gi i hi
    · rw [e 5 (by decide) (by decide), e 6 (by decide) (by decide), e 7 (by decide) (by decide)]; exact gb b hb
    · rw [e 8 (by decide) (by decide), e 9 (by decide) (by decide)]; exact gp k hk
    · unfold CNf; rw [e 13 (by decide) (by decide), e 14 (by decide) (by decide), e 11 (by decide) (by decide)]; exact gf
  exact ⟨rfl, ⟨hρ, fun _ _ _ => rfl⟩, s2.bq hq hc3, hN.rb hB.1.1 hB.1.2.1 hB.1.2.2.2.1 hf, fun _ => hN, ((cTt_b c1).tr (cTt_b c2)).tr (cB_b hc3)⟩)
theorem t_readStatement (d : Nat) {σ : St} {p : Nat × Nat} (hq : q = 2 ∨ q = 17) (hρ : RF ρ) (hb : ρ 317 2 = some q) (hT : TxW U) (hB : WfB B) (hfl : flen B ≤ p.1) (hI : Ivr U (.inr p)) (hL : lkS U (.inr p) = .inr p) (H0 : CNew σ q B) (H : CTt σ U (.inr p)) :
    T l X (d + 42) 80 [.ref 317] 400 400 ρ σ (StF U q ρ σ (stm U (.inr p, B))) := by
  have h16 := hT.1
  have hp : p.1 ≤ U.1 := hI.1
  have hf : flen B ≤ 1620 := by omega
  have hstm : stm U (.inr p, B) = if wAt U (.inr p) = kw 0 then idR U p.1 (tWd U (kw 0) (.inr p), B)
        else if wAt U (.inr p) = kw 3 then ndR U p.1 (tWd U (kw 3) (.inr p), B)
        else if wAt U (.inr p) = kw 5 then btR U p.1 (tWd U (kw 5) (.inr p), B)
        else if wAt U (.inr p) = kw 8 then plR U p.1 (tWd U (kw 8) (.inr p), B)
        else if wAt U (.inr p) = kw 10 then foR U 0 p.1 (tWd U (kw 10) (.inr p), B)
        else if wAt U (.inr p) = kw 28 then foR U 1 p.1 (tWd U (kw 28) (.inr p), B)
        else if wAt U (.inr p) = kw 29 then foR U 2 p.1 (tWd U (kw 29) (.inr p), B)
        else if wAt U (.inr p) = kw 30 then foR U 3 p.1 (tWd U (kw 30) (.inr p), B)
        else sqR U (.inr p, B) := rfl
  have tr : ∀ {σ1 : St} {y : Rdg × Bh} {v : Option Value} {ρ' : Rf} {σ' : St}, CF cTt σ σ1 → StF U q ρ σ1 y v ρ' σ' → StF U q ρ σ y v ρ' σ' := fun h1 h => ⟨h.1, h.2.1, h.2.2.1, h.2.2.2.1, h.2.2.2.2.1, (cTt_b h1).tr h.2.2.2.2.2⟩
  refine T_of rfl ?_
  refine Ev_aload rfl rfl rfl ?_
  refine Ev_getR rfl (by first | rfl | assumption) (hρ _ _ _ rfl) ?_
  refine Ev_getI rfl (by first | rfl | assumption) ?_
  refine Ev_norm (H.2.2.2.2.1 : _ = nI p.1) ?_
  refine Ev_istore rfl ?_
  have t0 : CF cTt σ σ := CF.rf _ _
  by_cases h0 : wAt U (.inr p) = kw 0
  · rw [if_pos h0] at hstm
    rw [hstm]
    exact (t_hit0 d hq hρ hb hT hB hfl hf hI hL (H0.tt hq t0) H h0).mono (fun _ _ _ h => tr t0 h)
  · rw [if_neg h0] at hstm
    refine t_hop0 d hρ hT hL H h0 (fun σ1_ H1_ c1_ => ?_)
    have t1 : CF cTt σ σ1_ := t0.tr c1_
    by_cases h3 : wAt U (.inr p) = kw 3
    · rw [if_pos h3] at hstm
      rw [hstm]
      exact (t_hit3 d hq hρ hb hT hB hfl hf hI hL (H0.tt hq t1) H1_ h3).mono (fun _ _ _ h => tr t1 h)
    · rw [if_neg h3] at hstm
      refine t_hop3 d hρ hT hL H1_ h3 (fun σ2_ H2_ c2_ => ?_)
      have t2 : CF cTt σ σ2_ := t1.tr c2_
      by_cases h5 : wAt U (.inr p) = kw 5
      · rw [if_pos h5] at hstm
        rw [hstm]
        exact (t_hit5 d hq hρ hb hT hB hfl hf hI hL (H0.tt hq t2) H2_ h5).mono (fun _ _ _ h => tr t2 h)
      · rw [if_neg h5] at hstm
        refine t_hop5 d hρ hT hL H2_ h5 (fun σ3_ H3_ c3_ => ?_)
        have t3 : CF cTt σ σ3_ := t2.tr c3_
        by_cases h8 : wAt U (.inr p) = kw 8
        · rw [if_pos h8] at hstm
          rw [hstm]
          exact (t_hit8 d hq hρ hb hT hB hfl hf hI hL (H0.tt hq t3) H3_ h8).mono (fun _ _ _ h => tr t3 h)
        · rw [if_neg h8] at hstm
          refine t_hop8 d hρ hT hL H3_ h8 (fun σ4_ H4_ c4_ => ?_)
          have t4 : CF cTt σ σ4_ := t3.tr c4_
          by_cases h10 : wAt U (.inr p) = kw 10
          · rw [if_pos h10] at hstm
            rw [hstm]
            exact (t_hit10 d hq hρ hb hT hB hfl hf hI hL (H0.tt hq t4) H4_ h10).mono (fun _ _ _ h => tr t4 h)
          · rw [if_neg h10] at hstm
            refine t_hop10 d hρ hT hL H4_ h10 (fun σ5_ H5_ c5_ => ?_)
            have t5 : CF cTt σ σ5_ := t4.tr c5_
            by_cases h28 : wAt U (.inr p) = kw 28
            · rw [if_pos h28] at hstm
              rw [hstm]
              exact (t_hit28 d hq hρ hb hT hB hfl hf hI hL (H0.tt hq t5) H5_ h28).mono (fun _ _ _ h => tr t5 h)
            · rw [if_neg h28] at hstm
              refine t_hop28 d hρ hT hL H5_ h28 (fun σ6_ H6_ c6_ => ?_)
              have t6 : CF cTt σ σ6_ := t5.tr c6_
              by_cases h29 : wAt U (.inr p) = kw 29
              · rw [if_pos h29] at hstm
                rw [hstm]
                exact (t_hit29 d hq hρ hb hT hB hfl hf hI hL (H0.tt hq t6) H6_ h29).mono (fun _ _ _ h => tr t6 h)
              · rw [if_neg h29] at hstm
                refine t_hop29 d hρ hT hL H6_ h29 (fun σ7_ H7_ c7_ => ?_)
                have t7 : CF cTt σ σ7_ := t6.tr c7_
                by_cases h30 : wAt U (.inr p) = kw 30
                · rw [if_pos h30] at hstm
                  rw [hstm]
                  exact (t_hit30 d hq hρ hb hT hB hfl hf hI hL (H0.tt hq t7) H7_ h30).mono (fun _ _ _ h => tr t7 h)
                · rw [if_neg h30] at hstm
                  refine t_hop30 d hρ hT hL H7_ h30 (fun σ8_ H8_ c8_ => ?_)
                  have t8 : CF cTt σ σ8_ := t7.tr c8_
                  rw [hstm]
                  exact (t_hitS d hq hρ hb hT hB hf (H0.tt hq t8) H8_).mono (fun _ _ _ h => tr t8 h)
end S88zze
