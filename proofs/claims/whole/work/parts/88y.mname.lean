/-! A text read: the reference's numbers, own words, names. -/
/-- the same but for where it stands -/
def MOn (σ σ' : St) (b : Nat) : Prop := MX σ σ' ∧ (∀ j, j ≠ 2 → σ'.1 326 j = σ.1 326 j) ∧ σ'.1 326 2 = nI b
theorem MOn.rf {σ : St} {b : Nat} (h : σ.1 326 2 = nI b) : MOn σ σ b := ⟨MF.rf _ _ _, fun _ _ => rfl, h⟩
theorem MOn.go {σ σ' : St} {b : Nat} (h : MOn σ σ' b) : MOn σ (sI σ' 326 (upd (σ'.1 326) 2 (nI (b + 1)))) (b + 1) := ⟨h.1.tr (mx_put _ rfl), fun j hj => by rw [sR_0, pk_un hj]; exact h.2.1 j hj, by rw [sR_0, pk_us]⟩
theorem MOn.st {σ σ' : St} {U : Tx} {p : Nat × Nat} {b : Nat} (h : MOn σ σ' b) (H : MTt σ U (.inr p)) : σ'.1 326 3 = nI U.1 ∧ (∀ j, j < U.1 → σ'.1 327 j = nI (U.2 j)) ∧ σ'.1 326 5 = 0 ∧ σ'.1 326 6 = -1 := ⟨by rw [h.2.1 _ (by decide)]; exact H.1, fun j hj => by rw [h.1.1 327 (by decide) rfl]; exact H.2.1 j hj, by rw [h.2.1 _ (by decide)]; exact H.2.2.2.2.2.2.2.1, by rw [h.2.1 _ (by decide)]; exact H.2.2.2.2.2.2.2.2⟩
/-- further on, not yet ended: enough to fail there -/
theorem MOn.tt {σ σ' : St} {U : Tx} {a k : Nat} (h : MOn σ σ' (a + k)) (H : MTt σ U (.inr (a, 0))) (hT : TxW U) (hk : a + k ≤ U.1) : MTt σ' U (.inr (a + k, 0)) := by
  have h16 := hT.1
  have h5 : (σ.1 326 4).toInt ≤ (a : Int) := H.2.2.2.2.2.1
  have h6 : σ.1 326 4 = nI a ↔ (0 : Nat) ≠ 0 := H.2.2.2.2.2.2.1
  obtain ⟨g1, g2, g3, g4⟩ := h.st H
  refine ⟨g1, g2, hk, Nat.zero_le _, h.2.2, ?_, ?_, g3, g4⟩
  · rw [h.2.1 _ (by decide)]; show _ ≤ ((a + k : Nat) : Int); omega
  · rw [h.2.1 _ (by decide)]
    refine ⟨fun z => ?_, fun z => absurd rfl z⟩
    have z : σ.1 326 4 = nI (a + k) := z
    by_cases hk0 : k = 0
    · subst hk0; exact absurd rfl (h6.mp z)
    · rw [z, nI_toInt (by omega)] at h5; omega
theorem mDg_0 {U : Tx} (hT : TxW U) {p : Nat × Nat} (h : dgI (lkV (mC U (.inr p))) = false) : mDg U (.inr p) = [] := by
  have : dgs U (skp U p.1) = [] := by
    cases hc : mC U (.inr p) with
    | none => exact dgs_e (Or.inl (mC_no hc))
    | some c =>
      rw [hc] at h
      have h : dgI (nI c) = false := h
      rw [dgI_n _ (mC_256 hT _ hc)] at h
      exact dgs_e (Or.inr (by rw [(mC_at hc).2]; exact h))
  unfold mDg
  show (if tcN U p.1 p.2 = 0 then dgs U (skp U p.1) else []) = []
  rw [this]; split <;> rfl
theorem mDg_t {U : Tx} {p : Nat × Nat} (h : tcN U p.1 p.2 ≠ 0) : mDg U (.inr p) = [] := if_neg h
theorem mDg_y {U : Tx} {p : Nat × Nat} (h : tcN U p.1 p.2 = 0) : mDg U (.inr p) = dgs U (skp U p.1) := if_pos h
theorem mLt_y {U : Tx} (hT : TxW U) {p : Nat × Nat} (h : ltI (lkV (mC U (.inr p))) = true) : wrd U (skp U p.1) ≠ [] := by
  cases hc : mC U (.inr p) with
  | none => rw [hc] at h; exact absurd h (by decide)
  | some c =>
    rw [hc] at h
    have h : ltI (nI c) = true := h
    rw [ltI_n _ (mC_256 hT _ hc)] at h
    exact wrd_ne.mpr ⟨(mC_at hc).1, by rw [(mC_at hc).2]; exact h⟩
theorem mDt_y {U : Tx} (hT : TxW U) {p : Nat × Nat} (h : dgI (lkV (mC U (.inr p))) = true) : dgs U (skp U p.1) ≠ [] := by
  cases hc : mC U (.inr p) with
  | none => rw [hc] at h; exact absurd h (by decide)
  | some c =>
    rw [hc] at h
    have h : dgI (nI c) = true := h
    rw [dgI_n _ (mC_256 hT _ hc)] at h
    rw [dgs_s (mC_at hc).1 (by rw [(mC_at hc).2]; exact h)]
    exact List.cons_ne_nil _ _
section S88y
variable {l : Launch} {X : Cx} {ρ : Rf} {U : Tx}
theorem m_number (d : Nat) {σ : St} {s : Rdg} {most : Nat} (hρ : RF ρ) (hT : TxW U) (hm : most < 2 ^ 31) (H : MTt σ U s) :
    T l X (d + 1) 176 [.ref 326, .int 0, .int (nI most)] 402 402 ρ σ (fun v ρ' σ' => (∃ x, v = some (.int x) ∧ (isOk (mNu U most s) = true → x = nI (nval (mDg U s)))) ∧ ρ' = ρ ∧ MTt σ' U (mNu U most s) ∧ MX σ σ') := by
  have h16 := hT.1
  cases s with
  | inl e =>
    have g5 := H.2.2.2.2.1
    refine T_of rfl ?_
    refine Ev_aload rfl rfl rfl ?_
    refine Ev_getI rfl (by first | rfl | assumption) ?_
    refine Ev_norm H.2.2.1 ?_
    refine Ev_if_eq rfl (fun h4 => absurd h4 (nI_ne0 g5.1 (by omega))) (fun h4 => ?_)
    refine Ev_const rfl ?_
    exact Ev_ireturn rfl rfl rfl rfl ⟨⟨0, rfl, fun z => by cases z⟩, rfl, H, MF.rf _ _ _⟩
  | inr p =>
    have no : mDg U (.inr p) = [] → ∀ σ1, MTt σ1 U (skM U (.inr p)) → MX σ σ1 → Ev l X (d + 1) 176 30 [.ref 326, .int 0, .int (nI most), .float 0, .float 0] [] 402 402 402 ρ σ1 (fun v ρ' σ' => (∃ x, v = some (.int x) ∧ (isOk (mNu U most (.inr p)) = true → x = nI (nval (mDg U (.inr p))))) ∧ ρ' = ρ ∧ MTt σ' U (mNu U most (.inr p)) ∧ MX σ σ') := by
      intro hd σ1 s1 c1
      have e : mNu U most (.inr p) = flA 1 0 (skM U (.inr p)) := if_pos hd
      rw [e]
      refine Ev_aload rfl rfl rfl ?_
      refine Ev_const rfl ?_
      refine Ev_aload rfl rfl rfl ?_
      refine Ev_getI rfl (by first | rfl | assumption) ?_
      refine Ev_callV rfl rfl rfl rfl rfl (same_n 402) (m_fail _ (w := 1) s1 (by decide) (atM s1)) ?_
      rintro v36 ρ36 σ36 ⟨rfl, e36, s36, c36⟩
      obtain rfl := e36.symm
      refine Ev_const rfl ?_
      exact Ev_ireturn rfl rfl rfl rfl ⟨⟨0, rfl, fun z => by cases z⟩, rfl, by rw [flA_P]; exact s36, c1.tr c36⟩
    refine T_of rfl ?_
    refine Ev_aload rfl rfl rfl ?_
    refine Ev_getI rfl (by first | rfl | assumption) ?_
    refine Ev_norm H.2.2.2.2.2.2.2.1 ?_
    refine Ev_if_eq rfl (fun h4 => ?_) (fun h4 => absurd rfl h4)
    refine Ev_aload rfl rfl rfl ?_
    refine Ev_callV rfl rfl rfl rfl rfl (same_n 402) (m_look _ hρ hT H) ?_
    rintro v10 ρ10 σ10 ⟨⟨x, rfl, hx⟩, e10, s10, c10⟩
    obtain rfl := e10.symm
    have hx := hx rfl
    subst hx
    refine Ev_callS rfl rfl rfl rfl (same_n 402) (m_isDigit _ _) ?_
    rintro v13 ρ13 σ13 ⟨rfl, e13, g13⟩
    obtain rfl := e13.symm
    obtain rfl := g13.symm
    refine Ev_if_eq rfl (fun h16 => ?_) (fun h16 => ?_)
    · exact no (mDg_0 hT (ff_of h16)) σ10 s10 c10
    · refine Ev_aload rfl rfl rfl ?_
      refine Ev_getI rfl (by first | rfl | assumption) ?_
      refine Ev_norm s10.2.2.2.2.1 ?_
      refine Ev_aload rfl rfl rfl ?_
      refine Ev_getI rfl (by first | rfl | assumption) ?_
      refine Ev_icmp_ne rfl (fun h27 => ?_) (fun h27 => ?_)
      · refine Ev_aload rfl rfl rfl ?_
        refine Ev_getI rfl (by first | rfl | assumption) ?_
        refine Ev_norm s10.2.2.2.2.1 ?_
        refine Ev_istore rfl ?_
        refine Ev_const rfl ?_
        refine Ev_istore rfl ?_
        have htc : tcN U p.1 p.2 = 0 := by
          rcases Nat.eq_zero_or_pos (tcN U p.1 p.2) with z | z
          · exact z
          · exact absurd (s10.2.2.2.2.2.2.1.mpr (by show tcN U p.1 p.2 ≠ 0; omega)).symm h27
        have hne := mDt_y hT (rt_of h16)
        have hu16 := hT.1
        have eD := mDg_y htc
        have eS : skM U (.inr p) = .inr (skp U p.1, 0) := by show Sum.inr (skp U p.1, tcN U p.1 p.2) = _; rw [htc]
        rw [eS] at s10
        generalize skp U p.1 = a at *
        have hle : a ≤ U.1 := s10.2.2.1
        obtain ⟨f1, f2, f3⟩ := dgs_end (T := U) _ a rfl
        have f1 := f1 hle
        have hlt := nval_lt (fun j hj => by rw [(f3 j hj).1]; exact (f3 j hj).2)
        generalize hD : dgs U a = D at *
        have em : mNu U most (.inr p) = if 4 < D.length then .inl (1, a + 4) else if most < nval D then .inl (2, a) else .inr (a + D.length, 2) := by
          unfold mNu
          rw [eD, eS, if_neg hne]
          rfl
        rw [em, eD]
        have fin : ∀ (σ1 : St) (j : Nat), D.length = j → j ≤ 4 → MOn σ10 σ1 (a + j) → Ev l X (d + 1) 176 129 [.ref 326, .int 0, .int (nI most), .int (nI a), .int (nI (nval (D.take j)))] [] 402 402 402 ρ σ1 (fun v ρ' σ' => (∃ x, v = some (.int x) ∧ (isOk (if 4 < D.length then .inl (1, a + 4) else if most < nval D then .inl (2, a) else .inr (a + D.length, 2)) = true → x = nI (nval D))) ∧ ρ' = ρ ∧ MTt σ' U (if 4 < D.length then .inl (1, a + 4) else if most < nval D then .inl (2, a) else .inr (a + D.length, 2)) ∧ MX σ σ') := by
          intro σ1 j hj hj4 o1
          obtain ⟨g1, g2, g3, g4⟩ := o1.st s10
          have hv := hlt j (by omega)
          have h10' : (10 : Nat) ^ j ≤ 10 ^ 4 := Nat.pow_le_pow_right (by decide) hj4
          have ht : D.take j = D := List.take_of_length_le (by omega)
          rw [ht] at hv ⊢
          rw [if_neg (show ¬ 4 < D.length by omega), hj]
          have s2 : MTt (sI (sI σ1 326 (upd (σ1.1 326) 4 (nI (a + j)))) 326 (upd ((sI σ1 326 (upd (σ1.1 326) 4 (nI (a + j)))).1 326) 10 (nI a))) U (.inr (a + j, 2)) := by
            refine (o1.tt s10 hT (by omega)).mx ((mx_put _ rfl).tr (mx_put _ rfl)) ⟨by show a + j ≤ U.1; omega, (by decide : (2 : Nat) ≤ 2), ?_, ?_, ?_, ?_, ?_⟩
            · rw [sR_0, pk_un (by decide), sR_0, pk_un (by decide)]; exact o1.2.2
            · rw [sR_0, pk_un (by decide), sR_0, pk_us, nI_toInt (by omega)]; exact Int.le_refl _
            · rw [sR_0, pk_un (by decide), sR_0, pk_us]; exact ⟨fun _ => show (2 : Nat) ≠ 0 by decide, fun _ => rfl⟩
            · rw [sR_0, pk_un (by decide), sR_0, pk_un (by decide)]; exact g3
            · rw [sR_0, pk_un (by decide), sR_0, pk_un (by decide)]; exact g4
          have hin : decide ((0 : Int32).toInt64 ≤ (nI (nval D)).toInt64 ∧ (nI (nval D)).toInt64 ≤ (nI most).toInt64) = decide (nval D ≤ most) := by
            have q0 : (0 : Int32).toInt64.toInt = 0 := rfl
            apply decide_eq_decide.mpr
            rw [Int64.le_iff_toInt_le, Int64.le_iff_toInt_le, l_of (nI (nval D)), l_of (nI most), nI_toInt (by omega), nI_toInt hm, q0]
            omega
          refine Ev_aload rfl rfl rfl ?_
          refine Ev_aload rfl rfl rfl ?_
          refine Ev_getI rfl (by first | rfl | assumption) ?_
          refine Ev_norm o1.2.2 ?_
          refine Ev_putI rfl (by first | rfl | assumption) ⟨rfl, rfl⟩ rfl ?_
          refine Ev_aload rfl rfl rfl ?_
          refine Ev_iload rfl rfl ?_
          refine Ev_putI rfl (by first | rfl | assumption) ⟨rfl, rfl⟩ rfl ?_
          refine Ev_iload rfl rfl ?_
          refine Ev_i2l rfl ?_
          refine Ev_iload rfl rfl ?_
          refine Ev_i2l rfl ?_
          refine Ev_iload rfl rfl ?_
          refine Ev_i2l rfl ?_
          refine Ev_callS rfl rfl rfl rfl (same_n 402) (m_isIn _ _ _ _) ?_
          rintro v149 ρ149 σ149 ⟨rfl, e149, g149⟩
          obtain rfl := e149.symm
          obtain rfl := g149.symm
          refine Ev_norm (by rw [hin] : _ = bI (decide (nval D ≤ most))) ?_
          refine Ev_if_ne rfl (fun h152 => ?_) (fun h152 => ?_)
          · refine Ev_iload rfl rfl ?_
            exact Ev_ireturn rfl rfl rfl rfl (by
            have hz := of_decide_eq_true (rt_of h152)
            rw [if_neg (show ¬ most < nval D by omega)]
            exact ⟨⟨_, rfl, fun _ => rfl⟩, rfl, s2, c10.tr (o1.1.tr ((mx_put _ rfl).tr (mx_put _ rfl)))⟩)
          · refine Ev_aload rfl rfl rfl ?_
            refine Ev_const rfl ?_
            refine Ev_aload rfl rfl rfl ?_
            refine Ev_getI rfl (by first | rfl | assumption) ?_
            refine Ev_norm (by rw [sR_0, pk_us] : _ = nI a) ?_
            refine Ev_callV rfl rfl rfl rfl rfl (same_n 402) (m_fail _ (w := 2) (k := a) s2 (by decide) (fun _ _ => rfl)) ?_
            rintro v161 ρ161 σ161 ⟨rfl, e161, s161, c161⟩
            obtain rfl := e161.symm
            refine Ev_iload rfl rfl ?_
            exact Ev_ireturn rfl rfl rfl rfl (by
            have hz := of_decide_eq_false (ff_of (Decidable.not_not.mp h152))
            rw [if_pos (show most < nval D by omega)]
            exact ⟨⟨_, rfl, fun z => by cases z⟩, rfl, s161, c10.tr (o1.1.tr (((mx_put _ rfl).tr (mx_put _ rfl)).tr c161))⟩)
        have loop : ∀ (m j : Nat) (σ1 : St), j + m = 4 → j ≤ D.length → MOn σ10 σ1 (a + j) → Ev l X (d + 1) 176 49 [.ref 326, .int 0, .int (nI most), .int (nI a), .int (nI (nval (D.take j)))] [] 402 402 402 ρ σ1 (fun v ρ' σ' => (∃ x, v = some (.int x) ∧ (isOk (if 4 < D.length then .inl (1, a + 4) else if most < nval D then .inl (2, a) else .inr (a + D.length, 2)) = true → x = nI (nval D))) ∧ ρ' = ρ ∧ MTt σ' U (if 4 < D.length then .inl (1, a + 4) else if most < nval D then .inl (2, a) else .inr (a + D.length, 2)) ∧ MX σ σ') := by
          intro m
          induction m with
          | zero =>
            intro j σ1 hj hjl o1
            obtain ⟨g1, g2, g3, g4⟩ := o1.st s10
            have hj : j = 4 := by omega
            subst hj
            have h256 := hT.2 (a + 4)
            refine Ev_aload rfl rfl rfl ?_
            refine Ev_getI rfl (by first | rfl | assumption) ?_
            refine Ev_norm o1.2.2 ?_
            refine Ev_aload rfl rfl rfl ?_
            refine Ev_getI rfl (by first | rfl | assumption) ?_
            refine Ev_norm g1 ?_
            refine Ev_icmp_ge rfl (fun h57 => ?_) (fun h57 => ?_)
            · exact fin σ1 4 (by have := (nI_leI (by omega) (by omega)).mp h57; omega) (by decide) o1
            · refine Ev_aload rfl rfl rfl ?_
              refine Ev_getR rfl (by first | rfl | assumption) (hρ _ _ _ rfl) ?_
              refine Ev_aload rfl rfl rfl ?_
              refine Ev_getI rfl (by first | rfl | assumption) ?_
              refine Ev_norm o1.2.2 ?_
              have hlt4 : a + 4 < U.1 := Nat.lt_of_not_le (fun z => h57 (nI_le z (by omega)))
              refine Ev_iald rfl (by first | rfl | assumption) (vp_in_nI (n := a + 4) (show a + 4 < 1600 by omega) (by decide)) ?_
              refine Ev_norm (by rw [nI_clamp (by omega)]; exact g2 _ hlt4 : _ = nI (U.2 (a + 4))) ?_
              refine Ev_callS rfl rfl rfl rfl (same_n 402) (m_isDigit _ _) ?_
              rintro v69 ρ69 σ69 ⟨rfl, e69, g69⟩
              obtain rfl := e69.symm
              obtain rfl := g69.symm
              refine Ev_norm (by rw [dgI_n _ h256] : _ = bI (dgB (U.2 (a + 4)))) ?_
              refine Ev_if_eq rfl (fun h72 => ?_) (fun h72 => ?_)
              · exact fin σ1 4 (by
                by_cases hq : 4 < D.length
                · rw [(f3 4 hq).2] at h72; exact absurd h72 (by decide)
                · omega) (by decide) o1
              · refine Ev_aload rfl rfl rfl ?_
                refine Ev_getI rfl (by first | rfl | assumption) ?_
                refine Ev_norm o1.2.2 ?_
                refine Ev_iload rfl rfl ?_
                refine Ev_isub rfl ?_
                refine Ev_norm (by rw [pk_sub (by omega), Nat.add_sub_cancel_left] : _ = nI 4) ?_
                refine Ev_const rfl ?_
                refine Ev_icmp_ne rfl (fun h82 => absurd rfl h82) (fun h82 => ?_)
                refine Ev_aload rfl rfl rfl ?_
                refine Ev_const rfl ?_
                refine Ev_aload rfl rfl rfl ?_
                refine Ev_getI rfl (by first | rfl | assumption) ?_
                refine Ev_norm o1.2.2 ?_
                have hl5 : 4 < D.length := by
                  by_cases hq : 4 < D.length
                  · exact hq
                  · have e : D.length = 4 := by omega
                    rw [e] at f2
                    rcases f2 with z | z
                    · omega
                    · rw [z] at h72; exact absurd rfl h72
                refine Ev_callV rfl rfl rfl rfl rfl (same_n 402) (m_fail _ (w := 1) (k := a + 4) (o1.tt s10 hT (by omega)) (by decide) (fun _ _ => rfl)) ?_
                rintro v91 ρ91 σ91 ⟨rfl, e91, s91, c91⟩
                obtain rfl := e91.symm
                refine Ev_const rfl ?_
                exact Ev_ireturn rfl rfl rfl rfl (by
                rw [if_pos hl5]
                exact ⟨⟨0, rfl, fun z => by cases z⟩, rfl, s91, c10.tr (o1.1.tr c91)⟩)
          | succ m ih =>
            intro j σ1 hj hjl o1
            obtain ⟨g1, g2, g3, g4⟩ := o1.st s10
            have h256 := hT.2 (a + j)
            have hv := hlt j hjl
            have h10' : (10 : Nat) ^ j ≤ 10 ^ 4 := Nat.pow_le_pow_right (by decide) (by omega)
            refine Ev_aload rfl rfl rfl ?_
            refine Ev_getI rfl (by first | rfl | assumption) ?_
            refine Ev_norm o1.2.2 ?_
            refine Ev_aload rfl rfl rfl ?_
            refine Ev_getI rfl (by first | rfl | assumption) ?_
            refine Ev_norm g1 ?_
            refine Ev_icmp_ge rfl (fun h57 => ?_) (fun h57 => ?_)
            · exact fin σ1 j (by have := (nI_leI (by omega) (by omega)).mp h57; omega) (by omega) o1
            · refine Ev_aload rfl rfl rfl ?_
              refine Ev_getR rfl (by first | rfl | assumption) (hρ _ _ _ rfl) ?_
              refine Ev_aload rfl rfl rfl ?_
              refine Ev_getI rfl (by first | rfl | assumption) ?_
              refine Ev_norm o1.2.2 ?_
              have hlt4 : a + j < U.1 := Nat.lt_of_not_le (fun z => h57 (nI_le z (by omega)))
              refine Ev_iald rfl (by first | rfl | assumption) (vp_in_nI (n := a + j) (show a + j < 1600 by omega) (by decide)) ?_
              refine Ev_norm (by rw [nI_clamp (by omega)]; exact g2 _ hlt4 : _ = nI (U.2 (a + j))) ?_
              refine Ev_callS rfl rfl rfl rfl (same_n 402) (m_isDigit _ _) ?_
              rintro v69 ρ69 σ69 ⟨rfl, e69, g69⟩
              obtain rfl := e69.symm
              obtain rfl := g69.symm
              refine Ev_norm (by rw [dgI_n _ h256] : _ = bI (dgB (U.2 (a + j)))) ?_
              refine Ev_if_eq rfl (fun h72 => ?_) (fun h72 => ?_)
              · exact fin σ1 j (by
                by_cases hq : j < D.length
                · rw [(f3 j hq).2] at h72; exact absurd h72 (by decide)
                · omega) (by omega) o1
              · refine Ev_aload rfl rfl rfl ?_
                refine Ev_getI rfl (by first | rfl | assumption) ?_
                refine Ev_norm o1.2.2 ?_
                refine Ev_iload rfl rfl ?_
                refine Ev_isub rfl ?_
                refine Ev_norm (by rw [pk_sub (by omega), Nat.add_sub_cancel_left] : _ = nI j) ?_
                refine Ev_const rfl ?_
                refine Ev_icmp_ne rfl (fun h82 => ?_) (fun h82 => absurd (fun z => by have := (nI_eq (b := 4) (by omega) (by decide)).mp z; omega) h82)
                have hdg := rt_of h72
                have hjlt : j < D.length := by
                  by_cases hq : j < D.length
                  · exact hq
                  · have e : D.length = j := by omega
                    rw [e] at f2
                    rcases f2 with z | z
                    · omega
                    · rw [z] at hdg; cases hdg
                refine Ev_const rfl ?_
                refine Ev_iload rfl rfl ?_
                refine Ev_imul rfl ?_
                refine Ev_norm (pk_mul 10 (nval (D.take j))) ?_
                refine Ev_aload rfl rfl rfl ?_
                refine Ev_getR rfl (by first | rfl | assumption) (hρ _ _ _ rfl) ?_
                refine Ev_aload rfl rfl rfl ?_
                refine Ev_getI rfl (by first | rfl | assumption) ?_
                refine Ev_norm o1.2.2 ?_
                refine Ev_iald rfl (by first | rfl | assumption) (vp_in_nI (n := a + j) (show a + j < 1600 by omega) (by decide)) ?_
                refine Ev_norm (by rw [nI_clamp (by omega)]; exact g2 _ hlt4 : _ = nI (U.2 (a + j))) ?_
                refine Ev_iadd rfl ?_
                refine Ev_norm (nI_add (10 * nval (D.take j)) (U.2 (a + j))) ?_
                refine Ev_const rfl ?_
                refine Ev_isub rfl ?_
                refine Ev_norm (show _ = nI (nval (D.take (j + 1))) by
                have := dgB_r hdg
                rw [nval_s hjlt, (f3 j hjlt).1]
                refine (pk_sub (b := 48) (by omega)).trans ?_
                congr 1
                omega) ?_
                refine Ev_istore rfl ?_
                refine Ev_aload rfl rfl rfl ?_
                refine Ev_dup rfl (fun _ q => nomatch q) ?_
                refine Ev_getI rfl (by first | rfl | assumption) ?_
                refine Ev_norm o1.2.2 ?_
                refine Ev_const rfl ?_
                refine Ev_iadd rfl ?_
                refine Ev_norm (nI_1 (a + j)) ?_
                refine Ev_putI rfl (by first | rfl | assumption) ⟨rfl, rfl⟩ rfl ?_
                refine Ev_goto rfl ?_
                exact ih (j + 1) _ (by omega) hjlt o1.go
        exact loop 4 0 σ10 (by decide) (Nat.zero_le _) (MOn.rf s10.2.2.2.2.1)
      · exact no (mDg_t (s10.2.2.2.2.2.2.1.mp (Decidable.not_not.mp h27).symm)) σ10 s10 c10
/-- the reference's own words -/
theorem m_isOwnHere (d : Nat) {σ : St} {s : Rdg} (hρ : RF ρ) (hT : TxW U) (hW : Wds σ) (H : MTt σ U s) :
    T l X (d + 2) 177 [.ref 326] 402 402 ρ σ (fun v ρ' σ' => v = some (.int (bI (decide (mWd U s ∈ ownW)))) ∧ ρ' = ρ ∧ MTt σ' U (skM U s) ∧ MX σ σ') := by
  have sk := skM_i U s
  have y343 : ∀ σ1, MTt σ1 U (skM U s) → MX σ σ1 → mWd U s ∈ ownW → Ev l X (d + 2) 177 343 [.ref 326, .int 1] [] 402 402 402 ρ σ1 (fun v ρ' σ' => v = some (.int (bI (decide (mWd U s ∈ ownW)))) ∧ ρ' = ρ ∧ MTt σ' U (skM U s) ∧ MX σ σ') := by
    intro σ1 s1 c1 hm
    refine Ev_iload rfl rfl ?_
    exact Ev_ireturn rfl rfl (narZ true) rfl ⟨by rw [decide_eq_true hm]; rfl, rfl, s1, c1⟩
  have y300 : ∀ σ1, MTt σ1 U (skM U s) → MX σ σ1 → mWd U s ∈ ownW → Ev l X (d + 2) 177 300 [.ref 326, .int 1] [] 402 402 402 ρ σ1 (fun v ρ' σ' => v = some (.int (bI (decide (mWd U s ∈ ownW)))) ∧ ρ' = ρ ∧ MTt σ' U (skM U s) ∧ MX σ σ') := by
    intro σ1 s1 c1 hm
    refine Ev_iload rfl rfl ?_
    refine Ev_if_ne rfl (fun h301 => ?_) (fun h301 => absurd (show ¬ (1 : Int32) = 0 by decide) h301)
    refine Ev_const rfl ?_
    refine Ev_goto rfl ?_
    refine Ev_istore rfl ?_
    exact y343 σ1 s1 c1 hm
  have y224 : ∀ σ1, MTt σ1 U (skM U s) → MX σ σ1 → mWd U s ∈ ownW → Ev l X (d + 2) 177 224 [.ref 326, .int 1] [] 402 402 402 ρ σ1 (fun v ρ' σ' => v = some (.int (bI (decide (mWd U s ∈ ownW)))) ∧ ρ' = ρ ∧ MTt σ' U (skM U s) ∧ MX σ σ') := by
    intro σ1 s1 c1 hm
    refine Ev_iload rfl rfl ?_
    refine Ev_if_ne rfl (fun h225 => ?_) (fun h225 => absurd (show ¬ (1 : Int32) = 0 by decide) h225)
    refine Ev_const rfl ?_
    refine Ev_goto rfl ?_
    refine Ev_istore rfl ?_
    exact y300 σ1 s1 c1 hm
  have y148 : ∀ σ1, MTt σ1 U (skM U s) → MX σ σ1 → mWd U s ∈ ownW → Ev l X (d + 2) 177 148 [.ref 326, .int 1] [] 402 402 402 ρ σ1 (fun v ρ' σ' => v = some (.int (bI (decide (mWd U s ∈ ownW)))) ∧ ρ' = ρ ∧ MTt σ' U (skM U s) ∧ MX σ σ') := by
    intro σ1 s1 c1 hm
    refine Ev_iload rfl rfl ?_
    refine Ev_if_ne rfl (fun h149 => ?_) (fun h149 => absurd (show ¬ (1 : Int32) = 0 by decide) h149)
    refine Ev_const rfl ?_
    refine Ev_goto rfl ?_
    refine Ev_istore rfl ?_
    exact y224 σ1 s1 c1 hm
  have y72 : ∀ σ1, MTt σ1 U (skM U s) → MX σ σ1 → mWd U s ∈ ownW → Ev l X (d + 2) 177 72 [.ref 326, .int 1] [] 402 402 402 ρ σ1 (fun v ρ' σ' => v = some (.int (bI (decide (mWd U s ∈ ownW)))) ∧ ρ' = ρ ∧ MTt σ' U (skM U s) ∧ MX σ σ') := by
    intro σ1 s1 c1 hm
    refine Ev_iload rfl rfl ?_
    refine Ev_if_ne rfl (fun h73 => ?_) (fun h73 => absurd (show ¬ (1 : Int32) = 0 by decide) h73)
    refine Ev_const rfl ?_
    refine Ev_goto rfl ?_
    refine Ev_istore rfl ?_
    exact y148 σ1 s1 c1 hm
  have n343 : ∀ σ1, MTt σ1 U (skM U s) → MX σ σ1 → (∀ w, w ∈ ownW.take 27 → mWd U s ≠ w) → Ev l X (d + 2) 177 343 [.ref 326, .int 0] [] 402 402 402 ρ σ1 (fun v ρ' σ' => v = some (.int (bI (decide (mWd U s ∈ ownW)))) ∧ ρ' = ρ ∧ MTt σ' U (skM U s) ∧ MX σ σ') := by
    intro σ1 s1 c1 hm
    refine Ev_iload rfl rfl ?_
    exact Ev_ireturn rfl rfl (narZ false) rfl ⟨by rw [decide_eq_false (show ¬ mWd U s ∈ ownW from fun z => hm _ z rfl)]; rfl, rfl, s1, c1⟩
  have n300 : ∀ σ1, MTt σ1 U (skM U s) → MX σ σ1 → (∀ w, w ∈ ownW.take 24 → mWd U s ≠ w) → Ev l X (d + 2) 177 300 [.ref 326, .int 0] [] 402 402 402 ρ σ1 (fun v ρ' σ' => v = some (.int (bI (decide (mWd U s ∈ ownW)))) ∧ ρ' = ρ ∧ MTt σ' U (skM U s) ∧ MX σ σ') := by
    intro σ1 s1 c1 hn
    have W1 := hW.mx c1
    refine Ev_iload rfl rfl ?_
    refine Ev_if_ne rfl (fun h301 => absurd rfl h301) (fun h301 => ?_)
    refine Ev_aload rfl rfl rfl ?_
    refine Ev_aload rfl rfl rfl ?_
    refine Ev_getR rfl (by first | rfl | assumption) (hρ _ _ _ rfl) ?_
    refine Ev_callV rfl rfl rfl rfl rfl (same_n 402) (m_isHere _ hρ hT (hW.mx c1) (k := 353) (w := [97, 108, 108]) (by decide) s1) ?_
    rintro v309 ρ309 σ309 ⟨rfl, e309, s309, k309⟩
    obtain rfl := e309.symm
    rw [sk.1] at s309
    rw [sk.2.2.1]
    have c309 := c1.tr k309
    refine Ev_if_ne rfl (fun h312 => ?_) (fun h312 => ?_)
    · refine Ev_const rfl ?_
      refine Ev_goto rfl ?_
      refine Ev_istore rfl ?_
      exact y343 σ309 s309 c309 (by rw [of_decide_eq_true (rt_of h312)]; decide)
    · refine Ev_aload rfl rfl rfl ?_
      refine Ev_aload rfl rfl rfl ?_
      refine Ev_getR rfl (by first | rfl | assumption) (hρ _ _ _ rfl) ?_
      refine Ev_callV rfl rfl rfl rfl rfl (same_n 402) (m_isHere _ hρ hT (hW.mx c309) (k := 354) (w := [109, 105, 110]) (by decide) s309) ?_
      rintro v320 ρ320 σ320 ⟨rfl, e320, s320, k320⟩
      obtain rfl := e320.symm
      rw [sk.1] at s320
      rw [sk.2.2.1]
      have c320 := c309.tr k320
      refine Ev_if_ne rfl (fun h323 => ?_) (fun h323 => ?_)
      · refine Ev_const rfl ?_
        refine Ev_goto rfl ?_
        refine Ev_istore rfl ?_
        exact y343 σ320 s320 c320 (by rw [of_decide_eq_true (rt_of h323)]; decide)
      · refine Ev_aload rfl rfl rfl ?_
        refine Ev_aload rfl rfl rfl ?_
        refine Ev_getR rfl (by first | rfl | assumption) (hρ _ _ _ rfl) ?_
        refine Ev_callV rfl rfl rfl rfl rfl (same_n 402) (m_isHere _ hρ hT (hW.mx c320) (k := 355) (w := [109, 97, 120]) (by decide) s320) ?_
        rintro v331 ρ331 σ331 ⟨rfl, e331, s331, k331⟩
        obtain rfl := e331.symm
        rw [sk.1] at s331
        rw [sk.2.2.1]
        have c331 := c320.tr k331
        refine Ev_if_eq rfl (fun h334 => ?_) (fun h334 => ?_)
        · refine Ev_const rfl ?_
          refine Ev_istore rfl ?_
          exact n343 σ331 s331 c331 (fun w hw => by
          rcases (show ∀ w, w ∈ ownW.take 27 → w ∈ ownW.take 24 ∨ w = [97, 108, 108] ∨ w = [109, 105, 110] ∨ w = [109, 97, 120] by decide) w hw with z | rfl | rfl | rfl
          · exact hn w z
          · exact of_decide_eq_false (ff_of (Decidable.not_not.mp h312))
          · exact of_decide_eq_false (ff_of (Decidable.not_not.mp h323))
          · exact of_decide_eq_false (ff_of h334))
        · refine Ev_const rfl ?_
          refine Ev_goto rfl ?_
          refine Ev_istore rfl ?_
          exact y343 σ331 s331 c331 (by rw [of_decide_eq_true (rt_of h334)]; decide)
  have n224 : ∀ σ1, MTt σ1 U (skM U s) → MX σ σ1 → (∀ w, w ∈ ownW.take 18 → mWd U s ≠ w) → Ev l X (d + 2) 177 224 [.ref 326, .int 0] [] 402 402 402 ρ σ1 (fun v ρ' σ' => v = some (.int (bI (decide (mWd U s ∈ ownW)))) ∧ ρ' = ρ ∧ MTt σ' U (skM U s) ∧ MX σ σ') := by
    intro σ1 s1 c1 hn
    have W1 := hW.mx c1
    refine Ev_iload rfl rfl ?_
    refine Ev_if_ne rfl (fun h225 => absurd rfl h225) (fun h225 => ?_)
    refine Ev_aload rfl rfl rfl ?_
    refine Ev_aload rfl rfl rfl ?_
    refine Ev_getR rfl (by first | rfl | assumption) (hρ _ _ _ rfl) ?_
    refine Ev_callV rfl rfl rfl rfl rfl (same_n 402) (m_isHere _ hρ hT (hW.mx c1) (k := 347) (w := [110, 117, 109, 98, 101, 114]) (by decide) s1) ?_
    rintro v233 ρ233 σ233 ⟨rfl, e233, s233, k233⟩
    obtain rfl := e233.symm
    rw [sk.1] at s233
    rw [sk.2.2.1]
    have c233 := c1.tr k233
    refine Ev_if_ne rfl (fun h236 => ?_) (fun h236 => ?_)
    · refine Ev_const rfl ?_
      refine Ev_goto rfl ?_
      refine Ev_istore rfl ?_
      exact y300 σ233 s233 c233 (by rw [of_decide_eq_true (rt_of h236)]; decide)
    · refine Ev_aload rfl rfl rfl ?_
      refine Ev_aload rfl rfl rfl ?_
      refine Ev_getR rfl (by first | rfl | assumption) (hρ _ _ _ rfl) ?_
      refine Ev_callV rfl rfl rfl rfl rfl (same_n 402) (m_isHere _ hρ hT (hW.mx c233) (k := 348) (w := [107, 110, 111, 119, 115]) (by decide) s233) ?_
      rintro v244 ρ244 σ244 ⟨rfl, e244, s244, k244⟩
      obtain rfl := e244.symm
      rw [sk.1] at s244
      rw [sk.2.2.1]
      have c244 := c233.tr k244
      refine Ev_if_ne rfl (fun h247 => ?_) (fun h247 => ?_)
      · refine Ev_const rfl ?_
        refine Ev_goto rfl ?_
        refine Ev_istore rfl ?_
        exact y300 σ244 s244 c244 (by rw [of_decide_eq_true (rt_of h247)]; decide)
      · refine Ev_aload rfl rfl rfl ?_
        refine Ev_aload rfl rfl rfl ?_
        refine Ev_getR rfl (by first | rfl | assumption) (hρ _ _ _ rfl) ?_
        refine Ev_callV rfl rfl rfl rfl rfl (same_n 402) (m_isHere _ hρ hT (hW.mx c244) (k := 349) (w := [114, 101, 97, 100, 121]) (by decide) s244) ?_
        rintro v255 ρ255 σ255 ⟨rfl, e255, s255, k255⟩
        obtain rfl := e255.symm
        rw [sk.1] at s255
        rw [sk.2.2.1]
        have c255 := c244.tr k255
        refine Ev_if_ne rfl (fun h258 => ?_) (fun h258 => ?_)
        · refine Ev_const rfl ?_
          refine Ev_goto rfl ?_
          refine Ev_istore rfl ?_
          exact y300 σ255 s255 c255 (by rw [of_decide_eq_true (rt_of h258)]; decide)
        · refine Ev_aload rfl rfl rfl ?_
          refine Ev_aload rfl rfl rfl ?_
          refine Ev_getR rfl (by first | rfl | assumption) (hρ _ _ _ rfl) ?_
          refine Ev_callV rfl rfl rfl rfl rfl (same_n 402) (m_isHere _ hρ hT (hW.mx c255) (k := 350) (w := [111, 114]) (by decide) s255) ?_
          rintro v266 ρ266 σ266 ⟨rfl, e266, s266, k266⟩
          obtain rfl := e266.symm
          rw [sk.1] at s266
          rw [sk.2.2.1]
          have c266 := c255.tr k266
          refine Ev_if_ne rfl (fun h269 => ?_) (fun h269 => ?_)
          · refine Ev_const rfl ?_
            refine Ev_goto rfl ?_
            refine Ev_istore rfl ?_
            exact y300 σ266 s266 c266 (by rw [of_decide_eq_true (rt_of h269)]; decide)
          · refine Ev_aload rfl rfl rfl ?_
            refine Ev_aload rfl rfl rfl ?_
            refine Ev_getR rfl (by first | rfl | assumption) (hρ _ _ _ rfl) ?_
            refine Ev_callV rfl rfl rfl rfl rfl (same_n 402) (m_isHere _ hρ hT (hW.mx c266) (k := 351) (w := [97, 110, 100]) (by decide) s266) ?_
            rintro v277 ρ277 σ277 ⟨rfl, e277, s277, k277⟩
            obtain rfl := e277.symm
            rw [sk.1] at s277
            rw [sk.2.2.1]
            have c277 := c266.tr k277
            refine Ev_if_ne rfl (fun h280 => ?_) (fun h280 => ?_)
            · refine Ev_const rfl ?_
              refine Ev_goto rfl ?_
              refine Ev_istore rfl ?_
              exact y300 σ277 s277 c277 (by rw [of_decide_eq_true (rt_of h280)]; decide)
            · refine Ev_aload rfl rfl rfl ?_
              refine Ev_aload rfl rfl rfl ?_
              refine Ev_getR rfl (by first | rfl | assumption) (hρ _ _ _ rfl) ?_
              refine Ev_callV rfl rfl rfl rfl rfl (same_n 402) (m_isHere _ hρ hT (hW.mx c277) (k := 352) (w := [110, 111, 116]) (by decide) s277) ?_
              rintro v288 ρ288 σ288 ⟨rfl, e288, s288, k288⟩
              obtain rfl := e288.symm
              rw [sk.1] at s288
              rw [sk.2.2.1]
              have c288 := c277.tr k288
              refine Ev_if_eq rfl (fun h291 => ?_) (fun h291 => ?_)
              · refine Ev_const rfl ?_
                refine Ev_istore rfl ?_
                exact n300 σ288 s288 c288 (fun w hw => by
                rcases (show ∀ w, w ∈ ownW.take 24 → w ∈ ownW.take 18 ∨ w = [110, 117, 109, 98, 101, 114] ∨ w = [107, 110, 111, 119, 115] ∨ w = [114, 101, 97, 100, 121] ∨ w = [111, 114] ∨ w = [97, 110, 100] ∨ w = [110, 111, 116] by decide) w hw with z | rfl | rfl | rfl | rfl | rfl | rfl
                · exact hn w z
                · exact of_decide_eq_false (ff_of (Decidable.not_not.mp h236))
                · exact of_decide_eq_false (ff_of (Decidable.not_not.mp h247))
                · exact of_decide_eq_false (ff_of (Decidable.not_not.mp h258))
                · exact of_decide_eq_false (ff_of (Decidable.not_not.mp h269))
                · exact of_decide_eq_false (ff_of (Decidable.not_not.mp h280))
                · exact of_decide_eq_false (ff_of h291))
              · refine Ev_const rfl ?_
                refine Ev_goto rfl ?_
                refine Ev_istore rfl ?_
                exact y300 σ288 s288 c288 (by rw [of_decide_eq_true (rt_of h291)]; decide)
  have n148 : ∀ σ1, MTt σ1 U (skM U s) → MX σ σ1 → (∀ w, w ∈ ownW.take 12 → mWd U s ≠ w) → Ev l X (d + 2) 177 148 [.ref 326, .int 0] [] 402 402 402 ρ σ1 (fun v ρ' σ' => v = some (.int (bI (decide (mWd U s ∈ ownW)))) ∧ ρ' = ρ ∧ MTt σ' U (skM U s) ∧ MX σ σ') := by
    intro σ1 s1 c1 hn
    have W1 := hW.mx c1
    refine Ev_iload rfl rfl ?_
    refine Ev_if_ne rfl (fun h149 => absurd rfl h149) (fun h149 => ?_)
    refine Ev_aload rfl rfl rfl ?_
    refine Ev_aload rfl rfl rfl ?_
    refine Ev_getR rfl (by first | rfl | assumption) (hρ _ _ _ rfl) ?_
    refine Ev_callV rfl rfl rfl rfl rfl (same_n 402) (m_isHere _ hρ hT (hW.mx c1) (k := 341) (w := [98, 101, 97, 114, 115]) (by decide) s1) ?_
    rintro v157 ρ157 σ157 ⟨rfl, e157, s157, k157⟩
    obtain rfl := e157.symm
    rw [sk.1] at s157
    rw [sk.2.2.1]
    have c157 := c1.tr k157
    refine Ev_if_ne rfl (fun h160 => ?_) (fun h160 => ?_)
    · refine Ev_const rfl ?_
      refine Ev_goto rfl ?_
      refine Ev_istore rfl ?_
      exact y224 σ157 s157 c157 (by rw [of_decide_eq_true (rt_of h160)]; decide)
    · refine Ev_aload rfl rfl rfl ?_
      refine Ev_aload rfl rfl rfl ?_
      refine Ev_getR rfl (by first | rfl | assumption) (hρ _ _ _ rfl) ?_
      refine Ev_callV rfl rfl rfl rfl rfl (same_n 402) (m_isHere _ hρ hT (hW.mx c157) (k := 342) (w := [115, 113, 117, 97, 108, 108]) (by decide) s157) ?_
      rintro v168 ρ168 σ168 ⟨rfl, e168, s168, k168⟩
      obtain rfl := e168.symm
      rw [sk.1] at s168
      rw [sk.2.2.1]
      have c168 := c157.tr k168
      refine Ev_if_ne rfl (fun h171 => ?_) (fun h171 => ?_)
      · refine Ev_const rfl ?_
        refine Ev_goto rfl ?_
        refine Ev_istore rfl ?_
        exact y224 σ168 s168 c168 (by rw [of_decide_eq_true (rt_of h171)]; decide)
      · refine Ev_aload rfl rfl rfl ?_
        refine Ev_aload rfl rfl rfl ?_
        refine Ev_getR rfl (by first | rfl | assumption) (hρ _ _ _ rfl) ?_
        refine Ev_callV rfl rfl rfl rfl rfl (same_n 402) (m_isHere _ hρ hT (hW.mx c168) (k := 343) (w := [104, 111, 117, 114]) (by decide) s168) ?_
        rintro v179 ρ179 σ179 ⟨rfl, e179, s179, k179⟩
        obtain rfl := e179.symm
        rw [sk.1] at s179
        rw [sk.2.2.1]
        have c179 := c168.tr k179
        refine Ev_if_ne rfl (fun h182 => ?_) (fun h182 => ?_)
        · refine Ev_const rfl ?_
          refine Ev_goto rfl ?_
          refine Ev_istore rfl ?_
          exact y224 σ179 s179 c179 (by rw [of_decide_eq_true (rt_of h182)]; decide)
        · refine Ev_aload rfl rfl rfl ?_
          refine Ev_aload rfl rfl rfl ?_
          refine Ev_getR rfl (by first | rfl | assumption) (hρ _ _ _ rfl) ?_
          refine Ev_callV rfl rfl rfl rfl rfl (same_n 402) (m_isHere _ hρ hT (hW.mx c179) (k := 344) (w := [107, 110, 111, 119, 110]) (by decide) s179) ?_
          rintro v190 ρ190 σ190 ⟨rfl, e190, s190, k190⟩
          obtain rfl := e190.symm
          rw [sk.1] at s190
          rw [sk.2.2.1]
          have c190 := c179.tr k190
          refine Ev_if_ne rfl (fun h193 => ?_) (fun h193 => ?_)
          · refine Ev_const rfl ?_
            refine Ev_goto rfl ?_
            refine Ev_istore rfl ?_
            exact y224 σ190 s190 c190 (by rw [of_decide_eq_true (rt_of h193)]; decide)
          · refine Ev_aload rfl rfl rfl ?_
            refine Ev_aload rfl rfl rfl ?_
            refine Ev_getR rfl (by first | rfl | assumption) (hρ _ _ _ rfl) ?_
            refine Ev_callV rfl rfl rfl rfl rfl (same_n 402) (m_isHere _ hρ hT (hW.mx c190) (k := 345) (w := [115, 116, 114, 101, 110, 103, 116, 104]) (by decide) s190) ?_
            rintro v201 ρ201 σ201 ⟨rfl, e201, s201, k201⟩
            obtain rfl := e201.symm
            rw [sk.1] at s201
            rw [sk.2.2.1]
            have c201 := c190.tr k201
            refine Ev_if_ne rfl (fun h204 => ?_) (fun h204 => ?_)
            · refine Ev_const rfl ?_
              refine Ev_goto rfl ?_
              refine Ev_istore rfl ?_
              exact y224 σ201 s201 c201 (by rw [of_decide_eq_true (rt_of h204)]; decide)
            · refine Ev_aload rfl rfl rfl ?_
              refine Ev_aload rfl rfl rfl ?_
              refine Ev_getR rfl (by first | rfl | assumption) (hρ _ _ _ rfl) ?_
              refine Ev_callV rfl rfl rfl rfl rfl (same_n 402) (m_isHere _ hρ hT (hW.mx c201) (k := 346) (w := [114, 111, 111, 116, 101, 100]) (by decide) s201) ?_
              rintro v212 ρ212 σ212 ⟨rfl, e212, s212, k212⟩
              obtain rfl := e212.symm
              rw [sk.1] at s212
              rw [sk.2.2.1]
              have c212 := c201.tr k212
              refine Ev_if_eq rfl (fun h215 => ?_) (fun h215 => ?_)
              · refine Ev_const rfl ?_
                refine Ev_istore rfl ?_
                exact n224 σ212 s212 c212 (fun w hw => by
                rcases (show ∀ w, w ∈ ownW.take 18 → w ∈ ownW.take 12 ∨ w = [98, 101, 97, 114, 115] ∨ w = [115, 113, 117, 97, 108, 108] ∨ w = [104, 111, 117, 114] ∨ w = [107, 110, 111, 119, 110] ∨ w = [115, 116, 114, 101, 110, 103, 116, 104] ∨ w = [114, 111, 111, 116, 101, 100] by decide) w hw with z | rfl | rfl | rfl | rfl | rfl | rfl
                · exact hn w z
                · exact of_decide_eq_false (ff_of (Decidable.not_not.mp h160))
                · exact of_decide_eq_false (ff_of (Decidable.not_not.mp h171))
                · exact of_decide_eq_false (ff_of (Decidable.not_not.mp h182))
                · exact of_decide_eq_false (ff_of (Decidable.not_not.mp h193))
                · exact of_decide_eq_false (ff_of (Decidable.not_not.mp h204))
                · exact of_decide_eq_false (ff_of h215))
              · refine Ev_const rfl ?_
                refine Ev_goto rfl ?_
                refine Ev_istore rfl ?_
                exact y224 σ212 s212 c212 (by rw [of_decide_eq_true (rt_of h215)]; decide)
  have n72 : ∀ σ1, MTt σ1 U (skM U s) → MX σ σ1 → (∀ w, w ∈ ownW.take 6 → mWd U s ≠ w) → Ev l X (d + 2) 177 72 [.ref 326, .int 0] [] 402 402 402 ρ σ1 (fun v ρ' σ' => v = some (.int (bI (decide (mWd U s ∈ ownW)))) ∧ ρ' = ρ ∧ MTt σ' U (skM U s) ∧ MX σ σ') := by
    intro σ1 s1 c1 hn
    have W1 := hW.mx c1
    refine Ev_iload rfl rfl ?_
    refine Ev_if_ne rfl (fun h73 => absurd rfl h73) (fun h73 => ?_)
    refine Ev_aload rfl rfl rfl ?_
    refine Ev_aload rfl rfl rfl ?_
    refine Ev_getR rfl (by first | rfl | assumption) (hρ _ _ _ rfl) ?_
    refine Ev_callV rfl rfl rfl rfl rfl (same_n 402) (m_isHere _ hρ hT (hW.mx c1) (k := 335) (w := [119, 105, 116, 115]) (by decide) s1) ?_
    rintro v81 ρ81 σ81 ⟨rfl, e81, s81, k81⟩
    obtain rfl := e81.symm
    rw [sk.1] at s81
    rw [sk.2.2.1]
    have c81 := c1.tr k81
    refine Ev_if_ne rfl (fun h84 => ?_) (fun h84 => ?_)
    · refine Ev_const rfl ?_
      refine Ev_goto rfl ?_
      refine Ev_istore rfl ?_
      exact y148 σ81 s81 c81 (by rw [of_decide_eq_true (rt_of h84)]; decide)
    · refine Ev_aload rfl rfl rfl ?_
      refine Ev_aload rfl rfl rfl ?_
      refine Ev_getR rfl (by first | rfl | assumption) (hρ _ _ _ rfl) ?_
      refine Ev_callV rfl rfl rfl rfl rfl (same_n 402) (m_isHere _ hρ hT (hW.mx c81) (k := 336) (w := [112, 108, 97, 110]) (by decide) s81) ?_
      rintro v92 ρ92 σ92 ⟨rfl, e92, s92, k92⟩
      obtain rfl := e92.symm
      rw [sk.1] at s92
      rw [sk.2.2.1]
      have c92 := c81.tr k92
      refine Ev_if_ne rfl (fun h95 => ?_) (fun h95 => ?_)
      · refine Ev_const rfl ?_
        refine Ev_goto rfl ?_
        refine Ev_istore rfl ?_
        exact y148 σ92 s92 c92 (by rw [of_decide_eq_true (rt_of h95)]; decide)
      · refine Ev_aload rfl rfl rfl ?_
        refine Ev_aload rfl rfl rfl ?_
        refine Ev_getR rfl (by first | rfl | assumption) (hρ _ _ _ rfl) ?_
        refine Ev_callV rfl rfl rfl rfl rfl (same_n 402) (m_isHere _ hρ hT (hW.mx c92) (k := 337) (w := [105, 110]) (by decide) s92) ?_
        rintro v103 ρ103 σ103 ⟨rfl, e103, s103, k103⟩
        obtain rfl := e103.symm
        rw [sk.1] at s103
        rw [sk.2.2.1]
        have c103 := c92.tr k103
        refine Ev_if_ne rfl (fun h106 => ?_) (fun h106 => ?_)
        · refine Ev_const rfl ?_
          refine Ev_goto rfl ?_
          refine Ev_istore rfl ?_
          exact y148 σ103 s103 c103 (by rw [of_decide_eq_true (rt_of h106)]; decide)
        · refine Ev_aload rfl rfl rfl ?_
          refine Ev_aload rfl rfl rfl ?_
          refine Ev_getR rfl (by first | rfl | assumption) (hρ _ _ _ rfl) ?_
          refine Ev_callV rfl rfl rfl rfl rfl (same_n 402) (m_isHere _ hρ hT (hW.mx c103) (k := 338) (w := [116, 105, 100, 101]) (by decide) s103) ?_
          rintro v114 ρ114 σ114 ⟨rfl, e114, s114, k114⟩
          obtain rfl := e114.symm
          rw [sk.1] at s114
          rw [sk.2.2.1]
          have c114 := c103.tr k114
          refine Ev_if_ne rfl (fun h117 => ?_) (fun h117 => ?_)
          · refine Ev_const rfl ?_
            refine Ev_goto rfl ?_
            refine Ev_istore rfl ?_
            exact y148 σ114 s114 c114 (by rw [of_decide_eq_true (rt_of h117)]; decide)
          · refine Ev_aload rfl rfl rfl ?_
            refine Ev_aload rfl rfl rfl ?_
            refine Ev_getR rfl (by first | rfl | assumption) (hρ _ _ _ rfl) ?_
            refine Ev_callV rfl rfl rfl rfl rfl (same_n 402) (m_isHere _ hρ hT (hW.mx c114) (k := 339) (w := [107, 101, 101, 112, 115]) (by decide) s114) ?_
            rintro v125 ρ125 σ125 ⟨rfl, e125, s125, k125⟩
            obtain rfl := e125.symm
            rw [sk.1] at s125
            rw [sk.2.2.1]
            have c125 := c114.tr k125
            refine Ev_if_ne rfl (fun h128 => ?_) (fun h128 => ?_)
            · refine Ev_const rfl ?_
              refine Ev_goto rfl ?_
              refine Ev_istore rfl ?_
              exact y148 σ125 s125 c125 (by rw [of_decide_eq_true (rt_of h128)]; decide)
            · refine Ev_aload rfl rfl rfl ?_
              refine Ev_aload rfl rfl rfl ?_
              refine Ev_getR rfl (by first | rfl | assumption) (hρ _ _ _ rfl) ?_
              refine Ev_callV rfl rfl rfl rfl rfl (same_n 402) (m_isHere _ hρ hT (hW.mx c125) (k := 340) (w := [102, 97, 100, 101, 115]) (by decide) s125) ?_
              rintro v136 ρ136 σ136 ⟨rfl, e136, s136, k136⟩
              obtain rfl := e136.symm
              rw [sk.1] at s136
              rw [sk.2.2.1]
              have c136 := c125.tr k136
              refine Ev_if_eq rfl (fun h139 => ?_) (fun h139 => ?_)
              · refine Ev_const rfl ?_
                refine Ev_istore rfl ?_
                exact n148 σ136 s136 c136 (fun w hw => by
                rcases (show ∀ w, w ∈ ownW.take 12 → w ∈ ownW.take 6 ∨ w = [119, 105, 116, 115] ∨ w = [112, 108, 97, 110] ∨ w = [105, 110] ∨ w = [116, 105, 100, 101] ∨ w = [107, 101, 101, 112, 115] ∨ w = [102, 97, 100, 101, 115] by decide) w hw with z | rfl | rfl | rfl | rfl | rfl | rfl
                · exact hn w z
                · exact of_decide_eq_false (ff_of (Decidable.not_not.mp h84))
                · exact of_decide_eq_false (ff_of (Decidable.not_not.mp h95))
                · exact of_decide_eq_false (ff_of (Decidable.not_not.mp h106))
                · exact of_decide_eq_false (ff_of (Decidable.not_not.mp h117))
                · exact of_decide_eq_false (ff_of (Decidable.not_not.mp h128))
                · exact of_decide_eq_false (ff_of h139))
              · refine Ev_const rfl ?_
                refine Ev_goto rfl ?_
                refine Ev_istore rfl ?_
                exact y148 σ136 s136 c136 (by rw [of_decide_eq_true (rt_of h139)]; decide)
  have n0 : ∀ σ1, MTt σ1 U s → MX σ σ1 → (∀ w, w ∈ ownW.take 0 → mWd U s ≠ w) → Ev l X (d + 2) 177 0 [.ref 326, .float 0] [] 402 402 402 ρ σ1 (fun v ρ' σ' => v = some (.int (bI (decide (mWd U s ∈ ownW)))) ∧ ρ' = ρ ∧ MTt σ' U (skM U s) ∧ MX σ σ') := by
    intro σ1 s1 c1 hn
    have W1 := hW.mx c1
    refine Ev_aload rfl rfl rfl ?_
    refine Ev_aload rfl rfl rfl ?_
    refine Ev_getR rfl (by first | rfl | assumption) (hρ _ _ _ rfl) ?_
    refine Ev_callV rfl rfl rfl rfl rfl (same_n 402) (m_isHere _ hρ hT (hW.mx c1) (k := 329) (w := [105, 100, 101, 97]) (by decide) s1) ?_
    rintro v5 ρ5 σ5 ⟨rfl, e5, s5, k5⟩
    obtain rfl := e5.symm
    have c5 := c1.tr k5
    refine Ev_if_ne rfl (fun h8 => ?_) (fun h8 => ?_)
    · refine Ev_const rfl ?_
      refine Ev_goto rfl ?_
      refine Ev_istore rfl ?_
      exact y72 σ5 s5 c5 (by rw [of_decide_eq_true (rt_of h8)]; decide)
    · refine Ev_aload rfl rfl rfl ?_
      refine Ev_aload rfl rfl rfl ?_
      refine Ev_getR rfl (by first | rfl | assumption) (hρ _ _ _ rfl) ?_
      refine Ev_callV rfl rfl rfl rfl rfl (same_n 402) (m_isHere _ hρ hT (hW.mx c5) (k := 330) (w := [100, 101, 112, 116, 104]) (by decide) s5) ?_
      rintro v16 ρ16 σ16 ⟨rfl, e16, s16, k16⟩
      obtain rfl := e16.symm
      rw [sk.1] at s16
      rw [sk.2.2.1]
      have c16 := c5.tr k16
      refine Ev_if_ne rfl (fun h19 => ?_) (fun h19 => ?_)
      · refine Ev_const rfl ?_
        refine Ev_goto rfl ?_
        refine Ev_istore rfl ?_
        exact y72 σ16 s16 c16 (by rw [of_decide_eq_true (rt_of h19)]; decide)
      · refine Ev_aload rfl rfl rfl ?_
        refine Ev_aload rfl rfl rfl ?_
        refine Ev_getR rfl (by first | rfl | assumption) (hρ _ _ _ rfl) ?_
        refine Ev_callV rfl rfl rfl rfl rfl (same_n 402) (m_isHere _ hρ hT (hW.mx c16) (k := 331) (w := [110, 101, 101, 100]) (by decide) s16) ?_
        rintro v27 ρ27 σ27 ⟨rfl, e27, s27, k27⟩
        obtain rfl := e27.symm
        rw [sk.1] at s27
        rw [sk.2.2.1]
        have c27 := c16.tr k27
        refine Ev_if_ne rfl (fun h30 => ?_) (fun h30 => ?_)
        · refine Ev_const rfl ?_
          refine Ev_goto rfl ?_
          refine Ev_istore rfl ?_
          exact y72 σ27 s27 c27 (by rw [of_decide_eq_true (rt_of h30)]; decide)
        · refine Ev_aload rfl rfl rfl ?_
          refine Ev_aload rfl rfl rfl ?_
          refine Ev_getR rfl (by first | rfl | assumption) (hρ _ _ _ rfl) ?_
          refine Ev_callV rfl rfl rfl rfl rfl (same_n 402) (m_isHere _ hρ hT (hW.mx c27) (k := 332) (w := [102, 111, 114]) (by decide) s27) ?_
          rintro v38 ρ38 σ38 ⟨rfl, e38, s38, k38⟩
          obtain rfl := e38.symm
          rw [sk.1] at s38
          rw [sk.2.2.1]
          have c38 := c27.tr k38
          refine Ev_if_ne rfl (fun h41 => ?_) (fun h41 => ?_)
          · refine Ev_const rfl ?_
            refine Ev_goto rfl ?_
            refine Ev_istore rfl ?_
            exact y72 σ38 s38 c38 (by rw [of_decide_eq_true (rt_of h41)]; decide)
          · refine Ev_aload rfl rfl rfl ?_
            refine Ev_aload rfl rfl rfl ?_
            refine Ev_getR rfl (by first | rfl | assumption) (hρ _ _ _ rfl) ?_
            refine Ev_callV rfl rfl rfl rfl rfl (same_n 402) (m_isHere _ hρ hT (hW.mx c38) (k := 333) (w := [98, 97, 116, 104, 101, 114]) (by decide) s38) ?_
            rintro v49 ρ49 σ49 ⟨rfl, e49, s49, k49⟩
            obtain rfl := e49.symm
            rw [sk.1] at s49
            rw [sk.2.2.1]
            have c49 := c38.tr k49
            refine Ev_if_ne rfl (fun h52 => ?_) (fun h52 => ?_)
            · refine Ev_const rfl ?_
              refine Ev_goto rfl ?_
              refine Ev_istore rfl ?_
              exact y72 σ49 s49 c49 (by rw [of_decide_eq_true (rt_of h52)]; decide)
            · refine Ev_aload rfl rfl rfl ?_
              refine Ev_aload rfl rfl rfl ?_
              refine Ev_getR rfl (by first | rfl | assumption) (hρ _ _ _ rfl) ?_
              refine Ev_callV rfl rfl rfl rfl rfl (same_n 402) (m_isHere _ hρ hT (hW.mx c49) (k := 334) (w := [108, 117, 110, 103]) (by decide) s49) ?_
              rintro v60 ρ60 σ60 ⟨rfl, e60, s60, k60⟩
              obtain rfl := e60.symm
              rw [sk.1] at s60
              rw [sk.2.2.1]
              have c60 := c49.tr k60
              refine Ev_if_eq rfl (fun h63 => ?_) (fun h63 => ?_)
              · refine Ev_const rfl ?_
                refine Ev_istore rfl ?_
                exact n72 σ60 s60 c60 (fun w hw => by
                rcases (show ∀ w, w ∈ ownW.take 6 → w ∈ ownW.take 0 ∨ w = [105, 100, 101, 97] ∨ w = [100, 101, 112, 116, 104] ∨ w = [110, 101, 101, 100] ∨ w = [102, 111, 114] ∨ w = [98, 97, 116, 104, 101, 114] ∨ w = [108, 117, 110, 103] by decide) w hw with z | rfl | rfl | rfl | rfl | rfl | rfl
                · exact hn w z
                · exact of_decide_eq_false (ff_of (Decidable.not_not.mp h8))
                · exact of_decide_eq_false (ff_of (Decidable.not_not.mp h19))
                · exact of_decide_eq_false (ff_of (Decidable.not_not.mp h30))
                · exact of_decide_eq_false (ff_of (Decidable.not_not.mp h41))
                · exact of_decide_eq_false (ff_of (Decidable.not_not.mp h52))
                · exact of_decide_eq_false (ff_of h63))
              · refine Ev_const rfl ?_
                refine Ev_goto rfl ?_
                refine Ev_istore rfl ?_
                exact y72 σ60 s60 c60 (by rw [of_decide_eq_true (rt_of h63)]; decide)
  refine T_of rfl ?_
  exact n0 σ H (MF.rf _ _ _) (fun w hw => by cases hw)
theorem nm_step {v c : Nat} (hv : v < 27 ^ 6) (h1 : 97 ≤ c) (h2 : c < 123) : (27 : Int64) * lI (v : Int) + (nI c).toInt64 - 97 + 1 = lI ((27 * v + (c - 96) : Nat) : Int) := by
  have hv : v < 387420489 := hv
  have q27 : (27 : Int64).toInt = 27 := rfl
  have q97 : (97 : Int64).toInt = 97 := rfl
  have q1 : (1 : Int64).toInt = 1 := rfl
  have e1 : ((27 : Int64) * lI (v : Int)).toInt = 27 * (v : Int) := by
    rw [Int64.toInt_mul, to_lI (by omega), q27]; exact bm64 (by omega)
  have e2 : ((27 : Int64) * lI (v : Int) + (nI c).toInt64).toInt = 27 * (v : Int) + c := by
    rw [Int64.toInt_add, e1, l_of, nI_toInt (by omega)]; exact bm64 (by omega)
  have e3 : ((27 : Int64) * lI (v : Int) + (nI c).toInt64 - 97).toInt = 27 * (v : Int) + c - 97 := by
    rw [Int64.toInt_sub, e2, q97]; exact bm64 (by omega)
  refine lI_eq ?_
  rw [Int64.toInt_add, e3, q1]
  refine (bm64 (by omega)).trans ?_
  omega
theorem n27_low {l : List Nat} : ∀ (v k : Nat), (∀ c, c ∈ l → c < 27) → v < 27 ^ k → n27 v l < 27 ^ (k + l.length) := by
  induction l with
  | nil => intro v k _ hv; exact hv
  | cons x l ih =>
    intro v k h hv
    have h2 := h x List.mem_cons_self
    have := ih (27 * v + x) (k + 1) (fun c hc => h c (List.mem_cons_of_mem x hc)) (by rw [Nat.pow_succ]; omega)
    rw [List.length_cons, show k + (l.length + 1) = k + 1 + l.length by omega]
    exact this
/-- a name asked, its letters by numbers -/
def mNm (U : Tx) (s : Rdg) : Rdg := if mWd U s = [] ∨ mWd U s ∈ ownW then flA 1 0 (skM U s) else if 6 < (mWd U s).length then flA 1 6 (skM U s) else adv (mWd U s).length 1 (skM U s)
def lets (w : List Nat) : List Nat := w.map (fun c => c - 96)
theorem m_name (d : Nat) {σ : St} {s : Rdg} (hρ : RF ρ) (hT : TxW U) (hW : Wds σ) (H : MTt σ U s) :
    T l X (d + 3) 178 [.ref 326] 402 402 ρ σ (fun v ρ' σ' => (∃ x, v = some (.long x) ∧ (isOk (mNm U s) = true → x = lI ((n27 0 (lets (mWd U s)) : Nat) : Int))) ∧ ρ' = ρ ∧ MTt σ' U (mNm U s) ∧ (isOk (mNm U s) = true → σ'.1 326 38 = nI (rpos (skM U s))) ∧ MX σ σ') := by
  have h16 := hT.1
  cases s with
  | inl e =>
    have g5 := H.2.2.2.2.1
    have e0 : mNm U (.inl e) = .inl e := if_pos (Or.inl rfl)
    rw [e0]
    refine T_of rfl ?_
    refine Ev_aload rfl rfl rfl ?_
    refine Ev_getI rfl (by first | rfl | assumption) ?_
    refine Ev_norm H.2.2.1 ?_
    refine Ev_if_eq rfl (fun h4 => absurd h4 (nI_ne0 g5.1 (by omega))) (fun h4 => ?_)
    refine Ev_constL rfl ?_
    exact Ev_lreturn rfl rfl rfl ⟨⟨0, rfl, fun z => by cases z⟩, rfl, H, (fun z => by cases z), MF.rf _ _ _⟩
  | inr p =>
    have no : mWd U (.inr p) = [] ∨ mWd U (.inr p) ∈ ownW → ∀ σ1, MTt σ1 U (skM U (.inr p)) → MX σ σ1 → Ev l X (d + 3) 178 37 [.ref 326, .float 0, .float 0] [] 402 402 402 ρ σ1 (fun v ρ' σ' => (∃ x, v = some (.long x) ∧ (isOk (mNm U (.inr p)) = true → x = lI ((n27 0 (lets (mWd U (.inr p))) : Nat) : Int))) ∧ ρ' = ρ ∧ MTt σ' U (mNm U (.inr p)) ∧ (isOk (mNm U (.inr p)) = true → σ'.1 326 38 = nI (rpos (skM U (.inr p)))) ∧ MX σ σ') := by
      intro hd σ1 s1 c1
      have e : mNm U (.inr p) = flA 1 0 (skM U (.inr p)) := if_pos hd
      rw [e]
      refine Ev_aload rfl rfl rfl ?_
      refine Ev_const rfl ?_
      refine Ev_aload rfl rfl rfl ?_
      refine Ev_getI rfl (by first | rfl | assumption) ?_
      refine Ev_callV rfl rfl rfl rfl rfl (same_n 402) (m_fail _ (w := 1) s1 (by decide) (atM s1)) ?_
      rintro v43 ρ43 σ43 ⟨rfl, e43, s43, c43⟩
      obtain rfl := e43.symm
      refine Ev_constL rfl ?_
      exact Ev_lreturn rfl rfl rfl ⟨⟨0, rfl, fun z => by cases z⟩, rfl, by rw [flA_P]; exact s43, (fun z => by cases z), c1.tr c43⟩
    refine T_of rfl ?_
    refine Ev_aload rfl rfl rfl ?_
    refine Ev_getI rfl (by first | rfl | assumption) ?_
    refine Ev_norm H.2.2.2.2.2.2.2.1 ?_
    refine Ev_if_eq rfl (fun h4 => ?_) (fun h4 => absurd rfl h4)
    refine Ev_aload rfl rfl rfl ?_
    refine Ev_callV rfl rfl rfl rfl rfl (same_n 402) (m_look _ hρ hT H) ?_
    rintro v10 ρ10 σ10 ⟨⟨x, rfl, hx⟩, e10, s10, c10⟩
    obtain rfl := e10.symm
    have hx := hx rfl
    subst hx
    refine Ev_callS rfl rfl rfl rfl (same_n 402) (m_isLetter _ _) ?_
    rintro v13 ρ13 σ13 ⟨rfl, e13, g13⟩
    obtain rfl := e13.symm
    obtain rfl := g13.symm
    refine Ev_if_eq rfl (fun h16 => ?_) (fun h16 => ?_)
    · exact no (Or.inl (mWd_0 hT (ff_of h16))) σ10 s10 c10
    · refine Ev_aload rfl rfl rfl ?_
      refine Ev_getI rfl (by first | rfl | assumption) ?_
      refine Ev_norm s10.2.2.2.2.1 ?_
      refine Ev_aload rfl rfl rfl ?_
      refine Ev_getI rfl (by first | rfl | assumption) ?_
      refine Ev_icmp_eq rfl (fun h27 => ?_) (fun h27 => ?_)
      · exact no (Or.inl (mWd_t (s10.2.2.2.2.2.2.1.mp h27.symm))) σ10 s10 c10
      · refine Ev_aload rfl rfl rfl ?_
        refine Ev_callV rfl rfl rfl rfl rfl (same_n 402) (m_isOwnHere _ hρ hT (hW.mx c10) s10) ?_
        rintro v31 ρ31 σ31 ⟨rfl, e31, s31, c31⟩
        obtain rfl := e31.symm
        rw [(skM_i U (.inr p)).1] at s31
        rw [(skM_i U (.inr p)).2.2.1]
        refine Ev_if_eq rfl (fun h34 => ?_) (fun h34 => ?_)
        · have htc : tcN U p.1 p.2 = 0 := by
            rcases Nat.eq_zero_or_pos (tcN U p.1 p.2) with z | z
            · exact z
            · exact absurd (s10.2.2.2.2.2.2.1.mpr (by show tcN U p.1 p.2 ≠ 0; omega)).symm h27
          have hne := mLt_y hT (rt_of h16)
          have how := of_decide_eq_false (ff_of h34)
          have eD := mWd_y htc
          have eS : skM U (.inr p) = .inr (skp U p.1, 0) := by show Sum.inr (skp U p.1, tcN U p.1 p.2) = _; rw [htc]
          rw [eS] at s31
          have c31 := c10.tr c31
          clear s10 c10
          generalize skp U p.1 = a at *
          have hle : a ≤ U.1 := s31.2.2.1
          obtain ⟨f1, f2, f3⟩ := wrd_end (T := U) _ a rfl
          have f1 := f1 hle
          rw [eD] at how
          generalize hD : wrd U a = D at *
          have em : mNm U (.inr p) = if 6 < D.length then .inl (1, a + 6) else .inr (a + D.length, 1) := by
            unfold mNm
            rw [eD, eS, if_neg (fun z => z.elim hne how)]
            rfl
          rw [em, eD, eS]
          have hl27 : ∀ j, j ≤ D.length → ∀ c, c ∈ lets (D.take j) → c < 27 := by
            intro j hj c hc
            obtain ⟨x, hx, rfl⟩ := List.mem_map.mp hc
            obtain ⟨i, hi, rfl⟩ := List.getElem_of_mem (List.mem_of_mem_take hx)
            have := f3 i hi
            rw [List.getD_eq_getElem?_getD, List.getElem?_eq_getElem hi] at this
            have h1 := this.1
            have h2 := ltB_r this.2
            rw [← h1] at h2
            have h2 : 97 ≤ D[i] ∧ D[i] < 123 := h2
            omega
          have hlen : ∀ j, j ≤ D.length → (lets (D.take j)).length = j := fun j hj => by unfold lets; rw [List.length_map, List.length_take]; omega
          have hs2 : MTt (sI σ31 326 (upd (σ31.1 326) 38 (nI a))) U (.inr (a, 0)) := s31.mx (mx_put _ rfl) ⟨hle, Nat.zero_le _, by rw [sR_0, pk_un (by decide)]; exact s31.2.2.2.2.1, by rw [sR_0, pk_un (by decide)]; exact s31.2.2.2.2.2.1, by rw [sR_0, pk_un (by decide)]; exact s31.2.2.2.2.2.2.1, by rw [sR_0, pk_un (by decide)]; exact s31.2.2.2.2.2.2.2.1, by rw [sR_0, pk_un (by decide)]; exact s31.2.2.2.2.2.2.2.2⟩
          have hnp : (sI σ31 326 (upd (σ31.1 326) 38 (nI a))).1 326 38 = nI a := by rw [sR_0, pk_us]
          have hc2 : MX σ (sI σ31 326 (upd (σ31.1 326) 38 (nI a))) := c31.tr (mx_put _ rfl)
          have fin : ∀ (σ1 : St) (j : Nat), D.length = j → j ≤ 6 → MOn (sI σ31 326 (upd (σ31.1 326) 38 (nI a))) σ1 (a + j) → Ev l X (d + 3) 178 145 [.ref 326, .long (lI ((n27 0 (lets (D.take j)) : Nat) : Int)), .float 0] [] 402 402 402 ρ σ1 (fun v ρ' σ' => (∃ x, v = some (.long x) ∧ (isOk (if 6 < D.length then .inl (1, a + 6) else .inr (a + D.length, 1)) = true → x = lI ((n27 0 (lets D) : Nat) : Int))) ∧ ρ' = ρ ∧ MTt σ' U (if 6 < D.length then .inl (1, a + 6) else .inr (a + D.length, 1)) ∧ (isOk (if 6 < D.length then .inl (1, a + 6) else .inr (a + D.length, 1)) = true → σ'.1 326 38 = nI (rpos (.inr (a, 0)))) ∧ MX σ σ') := by
            intro σ1 j hj hj6 o1
            obtain ⟨g1, g2, g3, g4⟩ := o1.st hs2
            have ht : D.take j = D := List.take_of_length_le (by omega)
            rw [ht, if_neg (show ¬ 6 < D.length by omega), hj]
            refine Ev_aload rfl rfl rfl ?_
            refine Ev_aload rfl rfl rfl ?_
            refine Ev_getI rfl (by first | rfl | assumption) ?_
            refine Ev_norm o1.2.2 ?_
            refine Ev_putI rfl (by first | rfl | assumption) ⟨rfl, rfl⟩ rfl ?_
            refine Ev_lload rfl rfl ?_
            exact Ev_lreturn rfl rfl rfl ⟨⟨_, rfl, fun _ => rfl⟩, rfl, by
            refine (o1.tt hs2 hT (by omega)).mx (mx_put _ rfl) ⟨by show a + j ≤ U.1; omega, (by decide : (1 : Nat) ≤ 2), ?_, ?_, ?_, ?_, ?_⟩
            · rw [sR_0, pk_un (by decide)]; exact o1.2.2
            · rw [sR_0, pk_us, nI_toInt (by omega)]; exact Int.le_refl _
            · rw [sR_0, pk_us]; exact ⟨fun _ => show (1 : Nat) ≠ 0 by decide, fun _ => rfl⟩
            · rw [sR_0, pk_un (by decide)]; exact g3
            · rw [sR_0, pk_un (by decide)]; exact g4, (fun _ => by rw [sR_0, pk_un (by decide), o1.2.1 _ (by decide)]; exact hnp), hc2.tr (o1.1.tr (mx_put _ rfl))⟩
          have loop : ∀ (m j : Nat) (σ1 : St), j + m = 6 → j ≤ D.length → MOn (sI σ31 326 (upd (σ31.1 326) 38 (nI a))) σ1 (a + j) → Ev l X (d + 3) 178 58 [.ref 326, .long (lI ((n27 0 (lets (D.take j)) : Nat) : Int)), .float 0] [] 402 402 402 ρ σ1 (fun v ρ' σ' => (∃ x, v = some (.long x) ∧ (isOk (if 6 < D.length then .inl (1, a + 6) else .inr (a + D.length, 1)) = true → x = lI ((n27 0 (lets D) : Nat) : Int))) ∧ ρ' = ρ ∧ MTt σ' U (if 6 < D.length then .inl (1, a + 6) else .inr (a + D.length, 1)) ∧ (isOk (if 6 < D.length then .inl (1, a + 6) else .inr (a + D.length, 1)) = true → σ'.1 326 38 = nI (rpos (.inr (a, 0)))) ∧ MX σ σ') := by
            intro m
            induction m with
            | zero =>
              intro j σ1 hj hjl o1
              obtain ⟨g1, g2, g3, g4⟩ := o1.st hs2
              have hj : j = 6 := by omega
              subst hj
              have h256 := hT.2 (a + 6)
              refine Ev_aload rfl rfl rfl ?_
              refine Ev_getI rfl (by first | rfl | assumption) ?_
              refine Ev_norm o1.2.2 ?_
              refine Ev_aload rfl rfl rfl ?_
              refine Ev_getI rfl (by first | rfl | assumption) ?_
              refine Ev_norm g1 ?_
              refine Ev_icmp_ge rfl (fun h66 => ?_) (fun h66 => ?_)
              · exact fin σ1 6 (by have := (nI_leI (by omega) (by omega)).mp h66; omega) (by decide) o1
              · refine Ev_aload rfl rfl rfl ?_
                refine Ev_getR rfl (by first | rfl | assumption) (hρ _ _ _ rfl) ?_
                refine Ev_aload rfl rfl rfl ?_
                refine Ev_getI rfl (by first | rfl | assumption) ?_
                refine Ev_norm o1.2.2 ?_
                have hlt4 : a + 6 < U.1 := Nat.lt_of_not_le (fun z => h66 (nI_le z (by omega)))
                refine Ev_iald rfl (by first | rfl | assumption) (vp_in_nI (n := a + 6) (show a + 6 < 1600 by omega) (by decide)) ?_
                refine Ev_norm (by rw [nI_clamp (by omega)]; exact g2 _ hlt4 : _ = nI (U.2 (a + 6))) ?_
                refine Ev_callS rfl rfl rfl rfl (same_n 402) (m_isLetter _ _) ?_
                rintro v78 ρ78 σ78 ⟨rfl, e78, g78⟩
                obtain rfl := e78.symm
                obtain rfl := g78.symm
                refine Ev_norm (by rw [ltI_n _ h256] : _ = bI (ltB (U.2 (a + 6)))) ?_
                refine Ev_if_eq rfl (fun h81 => ?_) (fun h81 => ?_)
                · exact fin σ1 6 (by
                  by_cases hq : 6 < D.length
                  · rw [(f3 6 hq).2] at h81; exact absurd h81 (by decide)
                  · omega) (by decide) o1
                · refine Ev_aload rfl rfl rfl ?_
                  refine Ev_getI rfl (by first | rfl | assumption) ?_
                  refine Ev_norm o1.2.2 ?_
                  refine Ev_aload rfl rfl rfl ?_
                  refine Ev_getI rfl (by first | rfl | assumption) ?_
                  refine Ev_norm (by exact (o1.2.1 _ (by decide)).trans hnp : _ = nI a) ?_
                  refine Ev_isub rfl ?_
                  refine Ev_norm (by rw [pk_sub (by omega), Nat.add_sub_cancel_left] : _ = nI 6) ?_
                  refine Ev_const rfl ?_
                  refine Ev_icmp_ne rfl (fun h95 => absurd rfl h95) (fun h95 => ?_)
                  refine Ev_aload rfl rfl rfl ?_
                  refine Ev_const rfl ?_
                  refine Ev_aload rfl rfl rfl ?_
                  refine Ev_getI rfl (by first | rfl | assumption) ?_
                  refine Ev_norm o1.2.2 ?_
                  have hl5 : 6 < D.length := by
                    by_cases hq : 6 < D.length
                    · exact hq
                    · have e : D.length = 6 := by omega
                      rw [e] at f2
                      rcases f2 with z | z
                      · omega
                      · rw [z] at h81; exact absurd rfl h81
                  refine Ev_callV rfl rfl rfl rfl rfl (same_n 402) (m_fail _ (w := 1) (k := a + 6) (o1.tt hs2 hT (by omega)) (by decide) (fun _ _ => rfl)) ?_
                  rintro v104 ρ104 σ104 ⟨rfl, e104, s104, c104⟩
                  obtain rfl := e104.symm
                  refine Ev_constL rfl ?_
                  exact Ev_lreturn rfl rfl rfl (by
                  rw [if_pos hl5]
                  exact ⟨⟨0, rfl, fun z => by cases z⟩, rfl, s104, (fun z => by cases z), hc2.tr (o1.1.tr c104)⟩)
            | succ m ih =>
              intro j σ1 hj hjl o1
              obtain ⟨g1, g2, g3, g4⟩ := o1.st hs2
              have h256 := hT.2 (a + j)
              refine Ev_aload rfl rfl rfl ?_
              refine Ev_getI rfl (by first | rfl | assumption) ?_
              refine Ev_norm o1.2.2 ?_
              refine Ev_aload rfl rfl rfl ?_
              refine Ev_getI rfl (by first | rfl | assumption) ?_
              refine Ev_norm g1 ?_
              refine Ev_icmp_ge rfl (fun h66 => ?_) (fun h66 => ?_)
              · exact fin σ1 j (by have := (nI_leI (by omega) (by omega)).mp h66; omega) (by omega) o1
              · refine Ev_aload rfl rfl rfl ?_
                refine Ev_getR rfl (by first | rfl | assumption) (hρ _ _ _ rfl) ?_
                refine Ev_aload rfl rfl rfl ?_
                refine Ev_getI rfl (by first | rfl | assumption) ?_
                refine Ev_norm o1.2.2 ?_
                have hlt4 : a + j < U.1 := Nat.lt_of_not_le (fun z => h66 (nI_le z (by omega)))
                refine Ev_iald rfl (by first | rfl | assumption) (vp_in_nI (n := a + j) (show a + j < 1600 by omega) (by decide)) ?_
                refine Ev_norm (by rw [nI_clamp (by omega)]; exact g2 _ hlt4 : _ = nI (U.2 (a + j))) ?_
                refine Ev_callS rfl rfl rfl rfl (same_n 402) (m_isLetter _ _) ?_
                rintro v78 ρ78 σ78 ⟨rfl, e78, g78⟩
                obtain rfl := e78.symm
                obtain rfl := g78.symm
                refine Ev_norm (by rw [ltI_n _ h256] : _ = bI (ltB (U.2 (a + j)))) ?_
                refine Ev_if_eq rfl (fun h81 => ?_) (fun h81 => ?_)
                · exact fin σ1 j (by
                  by_cases hq : j < D.length
                  · rw [(f3 j hq).2] at h81; exact absurd h81 (by decide)
                  · omega) (by omega) o1
                · refine Ev_aload rfl rfl rfl ?_
                  refine Ev_getI rfl (by first | rfl | assumption) ?_
                  refine Ev_norm o1.2.2 ?_
                  refine Ev_aload rfl rfl rfl ?_
                  refine Ev_getI rfl (by first | rfl | assumption) ?_
                  refine Ev_norm (by exact (o1.2.1 _ (by decide)).trans hnp : _ = nI a) ?_
                  refine Ev_isub rfl ?_
                  refine Ev_norm (by rw [pk_sub (by omega), Nat.add_sub_cancel_left] : _ = nI j) ?_
                  refine Ev_const rfl ?_
                  refine Ev_icmp_ne rfl (fun h95 => ?_) (fun h95 => absurd (fun z => by have := (nI_eq (b := 6) (by omega) (by decide)).mp z; omega) h95)
                  have hdg := rt_of h81
                  have hjlt : j < D.length := by
                    by_cases hq : j < D.length
                    · exact hq
                    · have e : D.length = j := by omega
                      rw [e] at f2
                      rcases f2 with z | z
                      · omega
                      · rw [z] at hdg; cases hdg
                  refine Ev_constL rfl ?_
                  refine Ev_lload rfl rfl ?_
                  refine Ev_lmul rfl ?_
                  refine Ev_aload rfl rfl rfl ?_
                  refine Ev_getR rfl (by first | rfl | assumption) (hρ _ _ _ rfl) ?_
                  refine Ev_aload rfl rfl rfl ?_
                  refine Ev_getI rfl (by first | rfl | assumption) ?_
                  refine Ev_norm o1.2.2 ?_
                  refine Ev_iald rfl (by first | rfl | assumption) (vp_in_nI (n := a + j) (show a + j < 1600 by omega) (by decide)) ?_
                  refine Ev_norm (by rw [nI_clamp (by omega)]; exact g2 _ hlt4 : _ = nI (U.2 (a + j))) ?_
                  refine Ev_i2l rfl ?_
                  refine Ev_ladd rfl ?_
                  refine Ev_constL rfl ?_
                  refine Ev_lsub rfl ?_
                  refine Ev_constL rfl ?_
                  refine Ev_ladd rfl ?_
                  refine Ev_normL (show _ = lI ((n27 0 (lets (D.take (j + 1))) : Nat) : Int) by
                  have hr := ltB_r hdg
                  have hn := n27_low (l := lets (D.take j)) 0 0 (hl27 j hjl) (by decide)
                  rw [hlen j hjl, Nat.zero_add] at hn
                  have hp : (27 : Nat) ^ j ≤ 27 ^ 6 := Nat.pow_le_pow_right (by decide) (by omega)
                  have e : lets (D.take (j + 1)) = lets (D.take j) ++ [U.2 (a + j) - 96] := by
                    unfold lets
                    rw [List.take_succ, List.map_append, List.getElem?_eq_getElem hjlt, ← (f3 j hjlt).1, List.getD_eq_getElem?_getD, List.getElem?_eq_getElem hjlt]
                    rfl
                  rw [e, n27_app]
                  exact nm_step (by omega) hr.1 hr.2) ?_
                  refine Ev_lstore rfl ?_
                  refine Ev_aload rfl rfl rfl ?_
                  refine Ev_dup rfl (fun _ q => nomatch q) ?_
                  refine Ev_getI rfl (by first | rfl | assumption) ?_
                  refine Ev_norm o1.2.2 ?_
                  refine Ev_const rfl ?_
                  refine Ev_iadd rfl ?_
                  refine Ev_norm (nI_1 (a + j)) ?_
                  refine Ev_putI rfl (by first | rfl | assumption) ⟨rfl, rfl⟩ rfl ?_
                  refine Ev_goto rfl ?_
                  exact ih (j + 1) _ (by omega) hjlt o1.go
          refine Ev_aload rfl rfl rfl ?_
          refine Ev_aload rfl rfl rfl ?_
          refine Ev_getI rfl (by first | rfl | assumption) ?_
          refine Ev_norm s31.2.2.2.2.1 ?_
          refine Ev_putI rfl (by first | rfl | assumption) ⟨rfl, rfl⟩ rfl ?_
          refine Ev_constL rfl ?_
          refine Ev_lstore rfl ?_
          exact loop 6 0 _ (by decide) (Nat.zero_le _) (MOn.rf (by rw [sR_0, pk_un (by decide)]; exact s31.2.2.2.2.1))
        · exact no (Or.inr (of_decide_eq_true (rt_of h34))) σ31 s31 (c10.tr c31)
end S88y
