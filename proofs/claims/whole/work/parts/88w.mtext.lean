/-! A text read: the reference looks, takes words and marks, fails. -/
def fTx (j : Nat) : Bool := Nat.beq j 2 || Nat.beq j 4 || Nat.beq j 5 || Nat.beq j 6 || Nat.beq j 10 || Nat.beq j 38
/-- the same but for what reading touches -/
abbrev MX (σ σ' : St) : Prop := MF (fun _ => false) fTx σ σ'
def MRs (σ : St) (U : Tx) : Rdg → Prop
  | .inl e => σ.1 326 5 = nI e.1 ∧ σ.1 326 6 = nI e.2 ∧ (0 < e.1 ∧ e.1 < 10) ∧ ∃ a, a ≤ U.1 ∧ σ.1 326 2 = nI a
  | .inr p => p.1 ≤ U.1 ∧ p.2 ≤ 2 ∧ σ.1 326 2 = nI p.1 ∧ (σ.1 326 4).toInt ≤ p.1 ∧ (σ.1 326 4 = nI p.1 ↔ p.2 ≠ 0) ∧ σ.1 326 5 = 0 ∧ σ.1 326 6 = -1
/-- the reference's text, as far as it is read -/
def MTt (σ : St) (U : Tx) (s : Rdg) : Prop := σ.1 326 3 = nI U.1 ∧ (∀ j, j < U.1 → σ.1 327 j = nI (U.2 j)) ∧ MRs σ U s
theorem MTt.mx {σ σ' : St} {U : Tx} {s s' : Rdg} (H : MTt σ U s) (hs : MX σ σ') (h : MRs σ' U s') : MTt σ' U s' := ⟨by rw [hs.2.2 3 rfl]; exact H.1, fun j hj => by rw [hs.1 327 (by decide) rfl]; exact H.2.1 j hj, h⟩
theorem mx_put {σ : St} {f : Nat} (x : Int32) (hF : fTx f = true) : MX σ (sI σ 326 (upd (σ.1 326) f x)) := MF.put x hF
section S88w
variable {l : Launch} {X : Cx} {ρ : Rf} {U : Tx}
theorem m_isLetter (d : Nat) {σ : St} (x : Int32) : T l X d 168 [.int x] 402 402 ρ σ (Rs (.int (bI (ltI x))) ρ σ) := by
  have e1 : (97 : Int32).toInt = 97 := rfl
  have e2 : (122 : Int32).toInt = 122 := rfl
  refine T_of rfl ?_
  refine Ev_iload rfl rfl ?_
  refine Ev_const rfl ?_
  refine Ev_icmp_lt rfl (fun h3 => ?_) (fun h3 => ?_)
  · refine Ev_const rfl ?_
    exact Ev_ireturn rfl rfl rfl rfl ⟨by unfold ltI; rw [decide_eq_false (by rw [Int32.lt_iff_toInt_lt] at h3; omega)]; rfl, rfl, rfl⟩
  · refine Ev_iload rfl rfl ?_
    refine Ev_const rfl ?_
    refine Ev_icmp_gt rfl (fun h9 => ?_) (fun h9 => ?_)
    · refine Ev_const rfl ?_
      exact Ev_ireturn rfl rfl rfl rfl ⟨by unfold ltI; rw [decide_eq_false (by rw [Int32.lt_iff_toInt_lt] at h9; omega)]; rfl, rfl, rfl⟩
    · refine Ev_const rfl ?_
      refine Ev_goto rfl ?_
      exact Ev_ireturn rfl rfl rfl rfl ⟨by unfold ltI; rw [decide_eq_true (by rw [Int32.lt_iff_toInt_lt] at h3 h9; omega)]; rfl, rfl, rfl⟩
theorem m_isDigit (d : Nat) {σ : St} (x : Int32) : T l X d 169 [.int x] 402 402 ρ σ (Rs (.int (bI (dgI x))) ρ σ) := by
  have e1 : (48 : Int32).toInt = 48 := rfl
  have e2 : (57 : Int32).toInt = 57 := rfl
  refine T_of rfl ?_
  refine Ev_iload rfl rfl ?_
  refine Ev_const rfl ?_
  refine Ev_icmp_lt rfl (fun h3 => ?_) (fun h3 => ?_)
  · refine Ev_const rfl ?_
    exact Ev_ireturn rfl rfl rfl rfl ⟨by unfold dgI; rw [decide_eq_false (by rw [Int32.lt_iff_toInt_lt] at h3; omega)]; rfl, rfl, rfl⟩
  · refine Ev_iload rfl rfl ?_
    refine Ev_const rfl ?_
    refine Ev_icmp_gt rfl (fun h9 => ?_) (fun h9 => ?_)
    · refine Ev_const rfl ?_
      exact Ev_ireturn rfl rfl rfl rfl ⟨by unfold dgI; rw [decide_eq_false (by rw [Int32.lt_iff_toInt_lt] at h9; omega)]; rfl, rfl, rfl⟩
    · refine Ev_const rfl ?_
      refine Ev_goto rfl ?_
      exact Ev_ireturn rfl rfl rfl rfl ⟨by unfold dgI; rw [decide_eq_true (by rw [Int32.lt_iff_toInt_lt] at h3 h9; omega)]; rfl, rfl, rfl⟩
theorem m_fail (d : Nat) {σ : St} {s : Rdg} {w k : Nat} {x : Int32} (H : MTt σ U s) (hw : 0 < w ∧ w < 10) (hx : ∀ p, s = .inr p → x = nI k) :
    T l X d 167 [.ref 326, .int (nI w), .int x] 402 402 ρ σ (fun v ρ' σ' => v = none ∧ ρ' = ρ ∧ MTt σ' U (flP w k s) ∧ MX σ σ') := by
  cases s with
  | inl e =>
    have g5 := H.2.2.2.2.1
    refine T_of rfl ?_
    refine Ev_aload rfl rfl rfl ?_
    refine Ev_getI rfl (by first | rfl | assumption) ?_
    refine Ev_norm H.2.2.1 ?_
    refine Ev_if_eq rfl (fun h4 => absurd h4 (nI_ne0 g5.1 (by omega))) (fun h4 => ?_)
    exact Ev_return rfl rfl rfl ⟨rfl, rfl, H, MF.rf _ _ _⟩
  | inr p =>
    obtain ⟨h1, h2, h3, h4, h5, h6, h7, h8, h9⟩ := H
    have hx := hx p rfl
    subst hx
    refine T_of rfl ?_
    refine Ev_aload rfl rfl rfl ?_
    refine Ev_getI rfl (by first | rfl | assumption) ?_
    refine Ev_norm h8 ?_
    refine Ev_if_eq rfl (fun h4 => ?_) (fun h4 => absurd rfl h4)
    refine Ev_aload rfl rfl rfl ?_
    refine Ev_iload rfl rfl ?_
    refine Ev_putI rfl (by first | rfl | assumption) ⟨rfl, rfl⟩ rfl ?_
    refine Ev_aload rfl rfl rfl ?_
    refine Ev_iload rfl rfl ?_
    refine Ev_putI rfl (by first | rfl | assumption) ⟨rfl, rfl⟩ rfl ?_
    exact Ev_return rfl rfl rfl ⟨rfl, rfl, ⟨h1, h2, rfl, rfl, hw, p.1, h3, h5⟩, (mx_put _ rfl).tr (mx_put _ rfl)⟩
theorem mlk_skip {d : Nat} {σ0 : St} {a0 : Nat} {Q : Po} (hρ : RF ρ) (hT : TxW U)
    (hQ : ∀ σ, MX σ0 σ → (∀ j, j ≠ 2 → σ.1 326 j = σ0.1 326 j) → σ.1 326 2 = nI (skp U a0) → Ev l X d 170 52 [.ref 326] [] 402 402 402 ρ σ Q) :
    ∀ (m a : Nat) (σ : St), U.1 - a = m → a ≤ U.1 → a0 ≤ a → skp U a = skp U a0 → σ.1 326 3 = nI U.1 → (∀ j, j < U.1 → σ.1 327 j = nI (U.2 j)) → MX σ0 σ → (∀ j, j ≠ 2 → σ.1 326 j = σ0.1 326 j) → σ.1 326 2 = nI a →
    Ev l X d 170 0 [.ref 326] [] 402 402 402 ρ σ Q := by
  have h16 := hT.1
  intro m
  induction m with
  | zero =>
    intro a σ hm ha h0 hsk hl hb hc ho hat
    have ha2 : a = U.1 := by omega
    have e : skp U a0 = a := by rw [← hsk]; exact skp_e (by omega)
    refine Ev_aload rfl rfl rfl ?_
    refine Ev_getI rfl (by first | rfl | assumption) ?_
    refine Ev_norm hat ?_
    refine Ev_aload rfl rfl rfl ?_
    refine Ev_getI rfl (by first | rfl | assumption) ?_
    refine Ev_norm hl ?_
    refine Ev_icmp_ge rfl (fun h8 => ?_) (fun h8 => absurd (nI_le (by omega) (by omega)) h8)
    exact hQ σ hc ho (by rw [e]; exact hat)
  | succ m ih =>
    intro a σ hm ha h0 hsk hl hb hc ho hat
    have h256 := hT.2 a
    have stop : ¬ (U.2 a = 10 ∨ U.2 a = 32) → Ev l X d 170 52 [.ref 326] [] 402 402 402 ρ σ Q := fun z => by
      have e : skp U a0 = a := by rw [← hsk]; exact skp_n (by omega) z
      exact hQ σ hc ho (by rw [e]; exact hat)
    have go : U.2 a = 10 ∨ U.2 a = 32 → Ev l X d 170 39 [.ref 326] [] 402 402 402 ρ σ Q := fun z => by
      refine Ev_aload rfl rfl rfl ?_
      refine Ev_dup rfl (fun _ q => nomatch q) ?_
      refine Ev_getI rfl (by first | rfl | assumption) ?_
      refine Ev_norm hat ?_
      refine Ev_const rfl ?_
      refine Ev_iadd rfl ?_
      refine Ev_norm (nI_1 a) ?_
      refine Ev_putI rfl (by first | rfl | assumption) ⟨rfl, rfl⟩ rfl ?_
      refine Ev_goto rfl ?_
      refine ih (a + 1) _ (by omega) (by omega) (by omega) (by rw [← hsk, skp_b (by omega) z]) ?_ ?_ (hc.tr (mx_put _ rfl)) ?_ ?_
      · rw [sR_0, pk_un (by decide)]; exact hl
      · intro j hj; rw [sR_1 _ _ (by decide)]; exact hb j hj
      · intro j hj; rw [sR_0, pk_un hj]; exact ho j hj
      · rw [sR_0, pk_us]
    refine Ev_aload rfl rfl rfl ?_
    refine Ev_getI rfl (by first | rfl | assumption) ?_
    refine Ev_norm hat ?_
    refine Ev_aload rfl rfl rfl ?_
    refine Ev_getI rfl (by first | rfl | assumption) ?_
    refine Ev_norm hl ?_
    refine Ev_icmp_ge rfl (fun h8 => absurd h8 (nI_ge (by omega) (by omega))) (fun h8 => ?_)
    refine Ev_aload rfl rfl rfl ?_
    refine Ev_getR rfl (by first | rfl | assumption) (hρ _ _ _ rfl) ?_
    refine Ev_aload rfl rfl rfl ?_
    refine Ev_getI rfl (by first | rfl | assumption) ?_
    refine Ev_norm hat ?_
    refine Ev_iald rfl (by first | rfl | assumption) (vp_in_nI (n := a) (show a < 1600 by omega) (by decide)) ?_
    refine Ev_norm (by rw [nI_clamp (by omega)]; exact hb a (by omega) : _ = nI (U.2 a)) ?_
    refine Ev_const rfl ?_
    refine Ev_icmp_eq rfl (fun h22 => ?_) (fun h22 => ?_)
    · exact go (Or.inl ((nI_eq (b := 10) (by omega) (by decide)).mp h22))
    · refine Ev_aload rfl rfl rfl ?_
      refine Ev_getR rfl (by first | rfl | assumption) (hρ _ _ _ rfl) ?_
      refine Ev_aload rfl rfl rfl ?_
      refine Ev_getI rfl (by first | rfl | assumption) ?_
      refine Ev_norm hat ?_
      refine Ev_iald rfl (by first | rfl | assumption) (vp_in_nI (n := a) (show a < 1600 by omega) (by decide)) ?_
      refine Ev_norm (by rw [nI_clamp (by omega)]; exact hb a (by omega) : _ = nI (U.2 a)) ?_
      refine Ev_const rfl ?_
      refine Ev_icmp_ne rfl (fun h36 => ?_) (fun h36 => ?_)
      · exact stop (fun z => z.elim (fun z => h22 ((nI_eq (b := 10) (by omega) (by decide)).mpr z)) (fun z => h36 ((nI_eq (b := 32) (by omega) (by decide)).mpr z)))
      · exact go (Or.inr ((nI_eq (b := 32) (by omega) (by decide)).mp (Decidable.not_not.mp h36)))
theorem m_look (d : Nat) {σ : St} {s : Rdg} (hρ : RF ρ) (hT : TxW U) (H : MTt σ U s) :
    T l X d 170 [.ref 326] 402 402 ρ σ (fun v ρ' σ' => (∃ x, v = some (.int x) ∧ (isOk s = true → x = lkV (mC U s))) ∧ ρ' = ρ ∧ MTt σ' U (skM U s) ∧ MX σ σ') := by
  have h16 := hT.1
  have main : ∀ (a : Nat) (σ1 : St), a ≤ U.1 → σ1.1 326 2 = nI a → σ1.1 326 3 = nI U.1 → (∀ j, j < U.1 → σ1.1 327 j = nI (U.2 j)) → ∀ Q : Po, (∀ x, x = lkV (if U.1 ≤ a then none else some (U.2 a)) → Q (some (.int x)) ρ σ1) → Ev l X d 170 52 [.ref 326] [] 402 402 402 ρ σ1 Q := by
    intro a σ1 ha hat hl hb Q hQ
    by_cases hend : U.1 ≤ a
    · rw [if_pos hend] at hQ
      refine Ev_aload rfl rfl rfl ?_
      refine Ev_getI rfl (by first | rfl | assumption) ?_
      refine Ev_norm hat ?_
      refine Ev_aload rfl rfl rfl ?_
      refine Ev_getI rfl (by first | rfl | assumption) ?_
      refine Ev_norm hl ?_
      refine Ev_icmp_ge rfl (fun h60 => ?_) (fun h60 => absurd (nI_le hend (by omega)) h60)
      refine Ev_const rfl ?_
      exact Ev_ireturn rfl rfl rfl rfl (hQ _ rfl)
    · rw [if_neg hend] at hQ
      have h256 := hT.2 a
      refine Ev_aload rfl rfl rfl ?_
      refine Ev_getI rfl (by first | rfl | assumption) ?_
      refine Ev_norm hat ?_
      refine Ev_aload rfl rfl rfl ?_
      refine Ev_getI rfl (by first | rfl | assumption) ?_
      refine Ev_norm hl ?_
      refine Ev_icmp_ge rfl (fun h60 => absurd h60 (nI_ge (by omega) (by omega))) (fun h60 => ?_)
      refine Ev_aload rfl rfl rfl ?_
      refine Ev_getR rfl (by first | rfl | assumption) (hρ _ _ _ rfl) ?_
      refine Ev_aload rfl rfl rfl ?_
      refine Ev_getI rfl (by first | rfl | assumption) ?_
      refine Ev_norm hat ?_
      refine Ev_iald rfl (by first | rfl | assumption) (vp_in_nI (n := a) (show a < 1600 by omega) (by decide)) ?_
      refine Ev_norm (by rw [nI_clamp (by omega)]; exact hb a (by omega) : _ = nI (U.2 a)) ?_
      refine Ev_goto rfl ?_
      exact Ev_ireturn rfl rfl rfl rfl (hQ _ rfl)
  cases s with
  | inl e =>
    have H' := H
    obtain ⟨h1, h2, h3, h4, h5, a, h6, h7⟩ := H
    refine T_of rfl ?_
    refine mlk_skip hρ hT (fun σ1 c1 o1 a1 => ?_) (U.1 - a) a σ rfl h6 (Nat.le_refl _) rfl h1 h2 (MF.rf _ _ _) (fun _ _ => rfl) h7
    have l1 := H'.mx c1 (s' := .inl e) ⟨by rw [o1 _ (by decide)]; exact h3, by rw [o1 _ (by decide)]; exact h4, h5, _, skp_le h6, a1⟩
    exact main _ σ1 (skp_le h6) a1 l1.1 l1.2.1 _ (fun x _ => ⟨⟨x, rfl, fun z => by cases z⟩, rfl, l1, c1⟩)
  | inr p =>
    have H' := H
    obtain ⟨h1, h2, h3, h4, h5, h6, h7, h8, h9⟩ := H
    have h3 : p.1 ≤ U.1 := h3
    have hle := skp_le h3
    have hup := skp_up U p.1
    refine T_of rfl ?_
    refine mlk_skip hρ hT (fun σ1 c1 o1 a1 => ?_) (U.1 - p.1) p.1 σ rfl h3 (Nat.le_refl _) rfl h1 h2 (MF.rf _ _ _) (fun _ _ => rfl) h5
    have htc2 : tcN U p.1 p.2 ≤ 2 := by unfold tcN; split <;> omega
    have hend : σ1.1 326 4 = nI (skp U p.1) ↔ tcN U p.1 p.2 ≠ 0 := by
      rw [o1 _ (by decide)]
      unfold tcN
      by_cases hq : skp U p.1 = p.1
      · rw [if_pos hq, hq]; exact h7
      · rw [if_neg hq]
        refine ⟨fun z => ?_, fun z => absurd rfl z⟩
        rw [z, nI_toInt (by omega)] at h6
        omega
    have l1 := H'.mx c1 (s' := .inr (skp U p.1, tcN U p.1 p.2)) ⟨hle, htc2, a1, by rw [o1 _ (by decide)]; show _ ≤ ((skp U p.1 : Nat) : Int); omega, hend, by rw [o1 _ (by decide)]; exact h8, by rw [o1 _ (by decide)]; exact h9⟩
    exact main _ σ1 hle a1 l1.1 l1.2.1 _ (fun x hx => ⟨⟨x, rfl, fun _ => hx⟩, rfl, l1, c1⟩)
end S88w
