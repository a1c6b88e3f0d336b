/-! A formula read by the reference: a part told. -/
def fNB (j : Nat) : Bool := fCW j || Nat.beq j 103 || fTx j
/-- the same but for what reading a formula touches; its base stays -/
abbrev MB (σ σ' : St) : Prop := MF cQ fNB σ σ'
theorem fNB_f {j : Nat} (h : fNB j = false) : fCW j = false ∧ Nat.beq j 103 = false ∧ fTx j = false := by
  unfold fNB at h
  rw [Bool.or_eq_false_iff, Bool.or_eq_false_iff] at h
  exact ⟨h.1.1, h.1.2, h.2⟩
theorem MX.b {σ σ' : St} (h : MX σ σ') : MB σ σ' := h.wk (fun _ _ => rfl) (fun j hj => (fNB_f hj).2.2)
theorem MW.b {σ σ' : St} (h : MW σ σ') : MB σ σ' := h.wk (fun _ q => q) (fun j hj => (fNB_f hj).1)
theorem op_b {σ σ' : St} (h : MF (fun _ => false) (fun j => Nat.beq j 103) σ σ') : MB σ σ' := h.wk (fun _ _ => rfl) (fun j hj => (fNB_f hj).2.1)
theorem MZ.b {σ σ' : St} (h : MZ σ σ') (hb : σ'.1 326 104 = σ.1 326 104) : MB σ σ' := ⟨h.1, h.2.1, fun j hj => by
  by_cases hq : j = 104
  · subst hq; exact hb
  · refine h.2.2 j ?_
    obtain ⟨h1, h2, -⟩ := fNB_f hj
    unfold fCW at h1
    unfold fQ
    rw [h1, h2, nbeq hq]; rfl⟩
theorem Wds.b {σ σ' : St} (H : Wds σ) (hs : MB σ σ') : Wds σ' := H.eq (fun p hp => hs.1 p.1 (by have := (wdS_ok p hp).1; omega) ((show ∀ p, p ∈ wdS → cQ p.1 = false by decide) p hp))
theorem MTt.le {σ : St} {U : Tx} {a tc : Nat} (H : MTt σ U (.inr (a, tc))) : a ≤ U.1 := H.2.2.1
theorem MTt.at0 {σ : St} {U : Tx} {a tc : Nat} (H : MTt σ U (.inr (a, tc))) : σ.1 326 2 = nI a := H.2.2.2.2.1
theorem MTt.bad0 {σ : St} {U : Tx} {p : Nat × Nat} (H : MTt σ U (.inr p)) : σ.1 326 5 = 0 := H.2.2.2.2.2.2.2.1
theorem MTt.badE {σ : St} {U : Tx} {e : Nat × Nat} (H : MTt σ U (.inl e)) : ∃ x, σ.1 326 5 = x ∧ ¬ x = 0 := ⟨_, H.2.2.1, nI_ne0 H.2.2.2.2.1.1 (by have := H.2.2.2.2.1.2; omega)⟩
theorem MPq.len {σ : St} {out W : List Nat} {o : Nat} (H : MPq σ out W o) : σ.1 326 102 = nI W.length := H.1.2.2.1
theorem runY_s {U : Tx} {k f c : Nat} {y r : Ys} (h : runY U k f (c, y) = some r) (ho : isOk y.1 = true) (hc : c ≠ 2) : ∃ g, f = g + 1 ∧ runY U k g (if c = 0 then stA U k y else stB U y) = some r := by
  cases f with
  | zero => cases h
  | succ g =>
    have h : (if isOk y.1 = false ∨ c = 2 then some y else runY U k g (if c = 0 then stA U k y else stB U y)) = some r := h
    rw [if_neg (fun z => z.elim (fun z => by rw [ho] at z; cases z) hc)] at h
    exact ⟨g, rfl, h⟩
theorem runY_e {U : Tx} {k f c c' : Nat} {y r : Ys} (h : runY U k f (c, y) = some r) (ho : isOk y.1 = false) : runY U k f (c', y) = some r := by
  cases f with
  | zero => cases h
  | succ g =>
    have h : (if isOk y.1 = false ∨ c = 2 then some y else runY U k g (if c = 0 then stA U k y else stB U y)) = some r := h
    rw [if_pos (Or.inl ho)] at h
    show (if isOk y.1 = false ∨ c' = 2 then some y else runY U k g (if c' = 0 then stA U k y else stB U y)) = some r
    rw [if_pos (Or.inl ho)]
    exact h
section S88zc
variable {l : Launch} {X : Cx} {ρ : Rf} {U : Tx}
/-- any code, of which nothing will be read -/
theorem m_qCodeX (d : Nat) {σ : St} {n : Nat} {x : Int32} (hρ : RF ρ) (h1 : σ.1 326 100 = nI n) (hn : n < 1700) :
    T l X d 262 [.ref 326, .int x] 402 402 ρ σ (fun v ρ' σ' => v = none ∧ ρ' = ρ ∧ MW σ σ' ∧ σ'.1 326 100 = nI (n + 1)) := by
  refine T_of rfl ?_
  refine Ev_aload rfl rfl rfl ?_
  refine Ev_getR rfl (by first | rfl | assumption) (hρ _ _ _ rfl) ?_
  refine Ev_aload rfl rfl rfl ?_
  refine Ev_getI rfl (by first | rfl | assumption) ?_
  refine Ev_norm h1 ?_
  refine Ev_iload rfl rfl ?_
  refine Ev_iast rfl (by first | rfl | assumption) (vp_in_nI (n := n) (show n < 1700 from hn) (by decide)) ?_
  refine Ev_aload rfl rfl rfl ?_
  refine Ev_dup rfl (fun _ q => nomatch q) ?_
  refine Ev_getI rfl (by first | rfl | assumption) ?_
  refine Ev_norm (by rw [sR_1 _ _ (by decide)]; exact h1 : _ = nI n) ?_
  refine Ev_const rfl ?_
  refine Ev_iadd rfl ?_
  refine Ev_norm (nI_1 n) ?_
  refine Ev_putI rfl (by first | rfl | assumption) ⟨rfl, rfl⟩ rfl ?_
  exact Ev_return rfl rfl rfl ⟨rfl, rfl, (MF.cell _ (by decide) rfl).tr (MF.put _ rfl), by rw [sR_0, pk_us]⟩
theorem m_failA (d : Nat) {σ : St} {s : Rdg} {w k : Nat} {x : Int32} (H : MTt σ U s) (hw : 0 < w ∧ w < 10) (hx : ∀ p, s = .inr p → x = nI k) :
    T l X d 167 [.ref 326, .int (nI w), .int x] 402 402 ρ σ (fun v ρ' σ' => v = none ∧ ρ' = ρ ∧ MTt σ' U (flP w k s) ∧ σ'.1 326 2 = σ.1 326 2 ∧ MX σ σ') := by
  cases s with
  | inl e =>
    have g5 := H.2.2.2.2.1
    refine T_of rfl ?_
    refine Ev_aload rfl rfl rfl ?_
    refine Ev_getI rfl (by first | rfl | assumption) ?_
    refine Ev_norm H.2.2.1 ?_
    refine Ev_if_eq rfl (fun h4 => absurd h4 (nI_ne0 g5.1 (by omega))) (fun h4 => ?_)
    exact Ev_return rfl rfl rfl ⟨rfl, rfl, H, rfl, MF.rf _ _ _⟩
  | inr p =>
    obtain ⟨h1, h2, h3, h4, h5, h6, h7, h8, h9⟩ := H
    have hx := hx p rfl
    subst hx
    refine T_of rfl ?_
    refine Ev_aload rfl rfl rfl ?_
    refine Ev_getI rfl (by first | rfl | assumption) ?_
    refine Ev_norm h8 ?_
    refine Ev_if_eq rfl (fun h4 => ?_) (fun h4 => absurd rfl h4)
    refine Ev_aload rfl rfl rfl ?_
    refine Ev_iload rfl rfl ?_
    refine Ev_putI rfl (by first | rfl | assumption) ⟨rfl, rfl⟩ rfl ?_
    refine Ev_aload rfl rfl rfl ?_
    refine Ev_iload rfl rfl ?_
    refine Ev_putI rfl (by first | rfl | assumption) ⟨rfl, rfl⟩ rfl ?_
    exact Ev_return rfl rfl rfl ⟨rfl, rfl, ⟨h1, h2, rfl, rfl, hw, p.1, h3, h5⟩, rfl, (mx_put _ rfl).tr (mx_put _ rfl)⟩
theorem m_qOpens (d : Nat) {σ : St} {s : Rdg} {out W : List Nat} {o e : Nat} {x : Int32} (hρ : RF ρ) (H : MTt σ U s) (hq : isOk s = true → MPq σ out W o) (hw : W.length < 1700) (he : isOpn e = true) (hx : ∀ p, s = .inr p → x = nI p.1) :
    T l X (d + 1) 263 [.ref 326, .int (nI (ec e)), .int x] 402 402 ρ σ (fun v ρ' σ' => v = none ∧ ρ' = ρ ∧ MTt σ' U (qOpY e (s, out, W, o)).1 ∧ (isOk (qOpY e (s, out, W, o)).1 = true → MPq σ' out (e :: W) (o + 1)) ∧ (σ'.1 326 2 = σ.1 326 2 ∧ σ'.1 326 100 = σ.1 326 100) ∧ MB σ σ') := by
  cases s with
  | inl e' =>
    obtain ⟨z, hz, hz0⟩ := H.badE
    refine T_of rfl ?_
    refine Ev_aload rfl rfl rfl ?_
    refine Ev_getI rfl (by first | rfl | assumption) ?_
    refine Ev_norm hz ?_
    refine Ev_if_eq rfl (fun h4 => absurd h4 hz0) (fun h4 => ?_)
    exact Ev_return rfl rfl rfl ⟨rfl, rfl, H, (fun z => by cases z), ⟨rfl, rfl⟩, MF.rf _ _ _⟩
  | inr p =>
    have hx := hx p rfl
    subst hx
    obtain ⟨q1, q2, q3, q4⟩ := hq rfl
    by_cases h6 : o = 6
    · have eY : qOpY e (.inr p, out, W, o) = (.inl (4, p.1), out, W, o) := if_pos h6
      rw [eY]
      refine T_of rfl ?_
      refine Ev_aload rfl rfl rfl ?_
      refine Ev_getI rfl (by first | rfl | assumption) ?_
      refine Ev_norm H.bad0 ?_
      refine Ev_if_eq rfl (fun h4 => ?_) (fun h4 => absurd rfl h4)
      refine Ev_aload rfl rfl rfl ?_
      refine Ev_getI rfl (by first | rfl | assumption) ?_
      refine Ev_norm q2 ?_
      refine Ev_const rfl ?_
      refine Ev_icmp_ne rfl (fun h14 => absurd (show nI o = 6 by rw [h6]; rfl) h14) (fun h14 => ?_)
      refine Ev_aload rfl rfl rfl ?_
      refine Ev_const rfl ?_
      refine Ev_iload rfl rfl ?_
      refine Ev_callV rfl rfl rfl rfl rfl (same_n 402) (m_failA _ (w := 4) (k := p.1) H (by decide) (fun _ _ => rfl)) ?_
      rintro v20 ρ20 σ20 ⟨rfl, e20, s20, a20, c20⟩
      obtain rfl := e20.symm
      exact Ev_return rfl rfl rfl ⟨rfl, rfl, s20, (fun z => by cases z), ⟨a20, c20.2.2 _ rfl⟩, c20.b⟩
    · have eY : qOpY e (.inr p, out, W, o) = (.inr p, out, e :: W, o + 1) := if_neg h6
      rw [eY]
      obtain ⟨g1, g2, g3, g4⟩ := q1
      refine T_of rfl ?_
      refine Ev_aload rfl rfl rfl ?_
      refine Ev_getI rfl (by first | rfl | assumption) ?_
      refine Ev_norm H.bad0 ?_
      refine Ev_if_eq rfl (fun h4 => ?_) (fun h4 => absurd rfl h4)
      refine Ev_aload rfl rfl rfl ?_
      refine Ev_getI rfl (by first | rfl | assumption) ?_
      refine Ev_norm q2 ?_
      refine Ev_const rfl ?_
      refine Ev_icmp_ne rfl (fun h14 => ?_) (fun h14 => absurd (fun z => h6 ((nI_eq (b := 6) (by omega) (by decide)).mp z)) h14)
      refine Ev_aload rfl rfl rfl ?_
      refine Ev_dup rfl (fun _ q => nomatch q) ?_
      refine Ev_getI rfl (by first | rfl | assumption) ?_
      refine Ev_norm q2 ?_
      refine Ev_const rfl ?_
      refine Ev_iadd rfl ?_
      refine Ev_norm (nI_1 o) ?_
      refine Ev_putI rfl (by first | rfl | assumption) ⟨rfl, rfl⟩ rfl ?_
      refine Ev_aload rfl rfl rfl ?_
      refine Ev_getR rfl (by first | rfl | assumption) (hρ _ _ _ rfl) ?_
      refine Ev_aload rfl rfl rfl ?_
      refine Ev_getI rfl (by first | rfl | assumption) ?_
      refine Ev_norm (by rw [sR_0, pk_un (by decide)]; exact g3 : _ = nI W.length) ?_
      refine Ev_iload rfl rfl ?_
      refine Ev_iast rfl (by first | rfl | assumption) (vp_in_nI (n := W.length) (show W.length < 1700 from hw) (by decide)) ?_
      refine Ev_aload rfl rfl rfl ?_
      refine Ev_dup rfl (fun _ q => nomatch q) ?_
      refine Ev_getI rfl (by first | rfl | assumption) ?_
      refine Ev_norm (by rw [sR_1 _ _ (by decide), sR_0, pk_un (by decide)]; exact g3 : _ = nI W.length) ?_
      refine Ev_const rfl ?_
      refine Ev_iadd rfl ?_
      refine Ev_norm (nI_1 W.length) ?_
      refine Ev_putI rfl (by first | rfl | assumption) ⟨rfl, rfl⟩ rfl ?_
      exact Ev_return rfl rfl rfl (by
      rw [nI_clamp (by omega)]
      have hmb : MB σ (sI (sI (sI σ 326 (upd (σ.1 326) 103 (nI (o + 1)))) 399 (upd ((sI σ 326 (upd (σ.1 326) 103 (nI (o + 1)))).1 399) W.length (nI (ec e)))) 326 (upd ((sI (sI σ 326 (upd (σ.1 326) 103 (nI (o + 1)))) 399 (upd ((sI σ 326 (upd (σ.1 326) 103 (nI (o + 1)))).1 399) W.length (nI (ec e)))).1 326) 102 (nI (W.length + 1)))) := ((op_b (op_put _)).tr (MF.cell _ (by decide) rfl)).tr (MF.put _ rfl)
      have hmz : MZ σ (sI (sI (sI σ 326 (upd (σ.1 326) 103 (nI (o + 1)))) 399 (upd ((sI σ 326 (upd (σ.1 326) 103 (nI (o + 1)))).1 399) W.length (nI (ec e)))) 326 (upd ((sI (sI σ 326 (upd (σ.1 326) 103 (nI (o + 1)))) 399 (upd ((sI σ 326 (upd (σ.1 326) 103 (nI (o + 1)))).1 399) W.length (nI (ec e)))).1 326) 102 (nI (W.length + 1)))) := ((op_z (op_put _)).tr (MF.cell _ (by decide) rfl)).tr (MF.put _ rfl)
      refine ⟨rfl, rfl, H.mz hmz, fun _ => ⟨⟨?_, ?_, ?_, ?_⟩, ?_, ?_, by omega⟩, ⟨by rw [sR_0, pk_un (by decide), sR_1 _ _ (by decide), sR_0, pk_un (by decide)], by rw [sR_0, pk_un (by decide), sR_1 _ _ (by decide), sR_0, pk_un (by decide)]⟩, hmb⟩
      · rw [sR_0, pk_un (by decide), sR_1 _ _ (by decide), sR_0, pk_un (by decide)]; exact g1
      · rw [sR_1 _ _ (by decide), sR_1 _ _ (by decide), sR_1 _ _ (by decide)]; exact g2
      · rw [sR_0, pk_us]; rfl
      · rw [sR_1 _ _ (by decide), sR_0, sR_1 _ _ (by decide)]; exact ⟨pk_us, g4.up (Nat.le_refl _)⟩
      · rw [sR_0, pk_un (by decide), sR_1 _ _ (by decide), sR_0, pk_us]
      · rw [cnt_p he]; omega)
/-- one on, whether a fault is seen or not -/
theorem MTt.onE {σ : St} {s : Rdg} {a : Nat} (H : MTt σ U s) (hT : TxW U) (ha : a < U.1) (hs : ∀ p, s = .inr p → p.1 = a) : MTt (sI σ 326 (upd (σ.1 326) 2 (nI (a + 1)))) U (adv 1 0 s) := by
  cases s with
  | inl e =>
    obtain ⟨h1, h2, h3, h4, h5, b, h6, h7⟩ := H
    refine ⟨by rw [sR_0, pk_un (by decide)]; exact h1, fun j hj => by rw [sR_1 _ _ (by decide)]; exact h2 j hj, by rw [sR_0, pk_un (by decide)]; exact h3, by rw [sR_0, pk_un (by decide)]; exact h4, h5, a + 1, ha, by rw [sR_0, pk_us]⟩
  | inr p =>
    obtain ⟨b, tc⟩ := p
    obtain rfl : b = a := hs _ rfl
    exact H.on1 ha hT
end S88zc
