/-! A text read: the reference's words, marks, numbers. -/
theorem wd_ok : ∀ p, p ∈ wdS → isA 402 p.1 2 = true ∧ (shp p.1).2 = p.2.length ∧ (Nat.blt p.1 402 && Nat.ble (shp p.1).1 3) = true ∧ (∀ c, c ∈ p.2 → ltB c = true) ∧ p.2 ≠ [] ∧ p.2.length < 10 := by decide +kernel
theorem lst_eq {u w : List Nat} (h1 : u.length = w.length) (h2 : ∀ j, j < w.length → u.getD j 0 = w.getD j 0) : u = w := by
  refine List.ext_getElem h1 (fun j q1 q2 => ?_)
  have := h2 j q2
  rw [List.getD_eq_getElem?_getD, List.getElem?_eq_getElem q1, List.getD_eq_getElem?_getD, List.getElem?_eq_getElem q2] at this
  exact this
theorem wrd_len {U : Tx} {a : Nat} (h : a ≤ U.1) : a + (wrd U a).length ≤ U.1 := (wrd_end (T := U) _ a rfl).1 h
theorem Wds.mx {σ σ' : St} (H : Wds σ) (hs : MX σ σ') : Wds σ' := H.eq (fun p hp => hs.1 p.1 (by have := (wdS_ok p hp).1; omega) rfl)
theorem mC_256 {U : Tx} (hT : TxW U) {s : Rdg} : ∀ x, mC U s = some x → x < 256 := fun x hx => by
  cases s with
  | inl e => cases hx
  | inr p =>
    unfold mC at hx
    have hx : (if U.1 ≤ skp U p.1 then none else some (U.2 (skp U p.1))) = some x := hx
    split at hx
    · cases hx
    · cases hx; exact hT.2 _
theorem mC_at {U : Tx} {p : Nat × Nat} {c : Nat} (h : mC U (.inr p) = some c) : skp U p.1 < U.1 ∧ U.2 (skp U p.1) = c := by
  unfold mC at h
  have h : (if U.1 ≤ skp U p.1 then none else some (U.2 (skp U p.1))) = some c := h
  split at h
  · cases h
  · cases h; exact ⟨by omega, rfl⟩
theorem mC_no {U : Tx} {p : Nat × Nat} (h : mC U (.inr p) = none) : U.1 ≤ skp U p.1 := by
  unfold mC at h
  have h : (if U.1 ≤ skp U p.1 then none else some (U.2 (skp U p.1))) = none := h
  split at h
  · assumption
  · cases h
theorem mWd_0 {U : Tx} (hT : TxW U) {p : Nat × Nat} (h : ltI (lkV (mC U (.inr p))) = false) : mWd U (.inr p) = [] := by
  have : wrd U (skp U p.1) = [] := by
    cases hc : mC U (.inr p) with
    | none => exact wrd_e (Or.inl (mC_no hc))
    | some c =>
      rw [hc] at h
      have h : ltI (nI c) = false := h
      rw [ltI_n _ (mC_256 hT _ hc)] at h
      exact wrd_e (Or.inr (by rw [(mC_at hc).2]; exact h))
  unfold mWd
  show (if tcN U p.1 p.2 = 0 then wrd U (skp U p.1) else []) = []
  rw [this]; split <;> rfl
theorem mWd_t {U : Tx} {p : Nat × Nat} (h : tcN U p.1 p.2 ≠ 0) : mWd U (.inr p) = [] := if_neg h
theorem mWd_y {U : Tx} {p : Nat × Nat} (h : tcN U p.1 p.2 = 0) : mWd U (.inr p) = wrd U (skp U p.1) := if_pos h
section S88x
variable {l : Launch} {X : Cx} {ρ : Rf} {U : Tx}
theorem m_isHere (d : Nat) {σ : St} {s : Rdg} {k : Nat} {w : List Nat} (hρ : RF ρ) (hT : TxW U) (hW : Wds σ) (hk : (k, w) ∈ wdS) (H : MTt σ U s) :
    T l X (d + 1) 171 [.ref 326, .ref k] 402 402 ρ σ (fun v ρ' σ' => v = some (.int (bI (decide (mWd U s = w)))) ∧ ρ' = ρ ∧ MTt σ' U (skM U s) ∧ MX σ σ') := by
  have h16 := hT.1
  obtain ⟨k1, k2, k3, k4, k5, k6⟩ := wd_ok _ hk
  have k1 : isA 402 k 2 = true := k1
  have k2 : (shp k).2 = w.length := k2
  have k3 : (Nat.blt k 402 && Nat.ble (shp k).1 3) = true := k3
  have k4 : ∀ c, c ∈ w → ltB c = true := k4
  have k6 : w.length < 10 := k6
  have k5 : w ≠ [] := k5
  cases s with
  | inl e =>
    have g5 := H.2.2.2.2.1
    rw [show decide (mWd U (.inl e) = w) = false from decide_eq_false (Ne.symm k5)]
    refine T_of rfl ?_
    refine Ev_aload rfl rfl rfl ?_
    refine Ev_getI rfl (by first | rfl | assumption) ?_
    refine Ev_norm H.2.2.1 ?_
    refine Ev_if_ne rfl (fun h4 => ?_) (fun h4 => absurd (nI_ne0 g5.1 (by omega)) h4)
    refine Ev_const rfl ?_
    exact Ev_ireturn rfl rfl (narZ false) rfl ⟨rfl, rfl, H, MF.rf _ _ _⟩
  | inr p =>
    have hb8 := H.2.2.2.2.2.2.2.1
    refine T_of rfl ?_
    refine Ev_aload rfl rfl rfl ?_
    refine Ev_getI rfl (by first | rfl | assumption) ?_
    refine Ev_norm hb8 ?_
    refine Ev_if_ne rfl (fun h4 => absurd rfl h4) (fun h4 => ?_)
    refine Ev_aload rfl rfl rfl ?_
    refine Ev_callV rfl rfl rfl rfl rfl (same_n 402) (m_look _ hρ hT H) ?_
    rintro v8 ρ8 σ8 ⟨⟨x, rfl, hx⟩, e8, s8, c8⟩
    obtain rfl := e8.symm
    have hx := hx rfl
    subst hx
    refine Ev_callS rfl rfl rfl rfl (same_n 402) (m_isLetter _ _) ?_
    rintro v11 ρ11 σ11 ⟨rfl, e11, g11⟩
    obtain rfl := e11.symm
    obtain rfl := g11.symm
    refine Ev_if_eq rfl (fun h14 => ?_) (fun h14 => ?_)
    · refine Ev_const rfl ?_
      exact Ev_ireturn rfl rfl (narZ false) rfl ⟨by rw [mWd_0 hT (ff_of h14), decide_eq_false (Ne.symm k5)]; rfl, rfl, s8, c8⟩
    · refine Ev_aload rfl rfl rfl ?_
      refine Ev_getI rfl (by first | rfl | assumption) ?_
      refine Ev_norm s8.2.2.2.2.1 ?_
      refine Ev_aload rfl rfl rfl ?_
      refine Ev_getI rfl (by first | rfl | assumption) ?_
      refine Ev_icmp_ne rfl (fun h25 => ?_) (fun h25 => ?_)
      · refine Ev_aload rfl rfl rfl ?_
        refine Ev_getI rfl (by first | rfl | assumption) ?_
        refine Ev_norm s8.2.2.2.2.1 ?_
        refine Ev_istore rfl ?_
        have htc : tcN U p.1 p.2 = 0 := by
          rcases Nat.eq_zero_or_pos (tcN U p.1 p.2) with z | z
          · exact z
          · exact absurd (s8.2.2.2.2.2.2.1.mpr (by show tcN U p.1 p.2 ≠ 0; omega)).symm h25
        rw [mWd_y htc]
        have W8 := hW.mx c8
        have hle : skp U p.1 ≤ U.1 := s8.2.2.1
        have hlen := wrd_len hle
        have hend := wrd_end (T := U) _ (skp U p.1) rfl
        have fin : Ev l X (d + 1) 171 61 [.ref 326, .ref k, .int (nI (skp U p.1 + (wrd U (skp U p.1)).length)), .float 0] [] 402 402 402 ρ σ8 (fun v ρ' σ' => v = some (.int (bI (decide (wrd U (skp U p.1) = w)))) ∧ ρ' = ρ ∧ MTt σ' U (skM U (.inr p)) ∧ MX σ σ') := by
          have lp : ∀ (m j : Nat), j + m = w.length → (wrd U (skp U p.1)).length = w.length → (∀ i, i < j → (wrd U (skp U p.1)).getD i 0 = w.getD i 0) → Ev l X (d + 1) 171 76 [.ref 326, .ref k, .int (nI (skp U p.1 + (wrd U (skp U p.1)).length)), .int (nI j)] [] 402 402 402 ρ σ8 (fun v ρ' σ' => v = some (.int (bI (decide (wrd U (skp U p.1) = w)))) ∧ ρ' = ρ ∧ MTt σ' U (skM U (.inr p)) ∧ MX σ σ') := by
            intro m
            induction m with
            | zero =>
              intro j hj hl hpre
              have hj : j = w.length := by omega
              subst hj
              refine Ev_iload rfl rfl ?_
              refine Ev_aload rfl rfl rfl ?_
              refine Ev_alen rfl k3 ?_
              refine Ev_norm (by rw [k2]; rfl : _ = nI w.length) ?_
              refine Ev_icmp_ge rfl (fun h79 => ?_) (fun h79 => absurd (nI_le (Nat.le_refl _) (by omega)) h79)
              refine Ev_const rfl ?_
              exact Ev_ireturn rfl rfl (narZ true) rfl ⟨by rw [decide_eq_true (lst_eq hl hpre)]; rfl, rfl, s8, c8⟩
            | succ m ih =>
              intro j hj hl hpre
              have h256 := hT.2 (skp U p.1 + j)
              have hlj := ltB_r (k4 (w.getD j 0) (getD_mem (by omega)))
              have hg := (hend.2.2 j (by omega)).1
              refine Ev_iload rfl rfl ?_
              refine Ev_aload rfl rfl rfl ?_
              refine Ev_alen rfl k3 ?_
              refine Ev_norm (by rw [k2]; rfl : _ = nI w.length) ?_
              refine Ev_icmp_ge rfl (fun h79 => absurd h79 (nI_ge (by omega) (by omega))) (fun h79 => ?_)
              refine Ev_aload rfl rfl rfl ?_
              refine Ev_getR rfl (by first | rfl | assumption) (hρ _ _ _ rfl) ?_
              refine Ev_aload rfl rfl rfl ?_
              refine Ev_getI rfl (by first | rfl | assumption) ?_
              refine Ev_norm s8.2.2.2.2.1 ?_
              refine Ev_iload rfl rfl ?_
              refine Ev_iadd rfl ?_
              refine Ev_norm (nI_add (skp U p.1) j) ?_
              refine Ev_iald rfl (by first | rfl | assumption) (vp_in_nI (n := skp U p.1 + j) (show skp U p.1 + j < 1600 by omega) (by decide)) ?_
              refine Ev_norm (by rw [nI_clamp (by omega)]; exact s8.2.1 _ (by omega) : _ = nI (U.2 (skp U p.1 + j))) ?_
              refine Ev_aload rfl rfl rfl ?_
              refine Ev_iload rfl rfl ?_
              refine Ev_cald rfl k1 (vp_in_nI (n := j) (show j < (shp k).2 by omega) (by rw [k2]; omega)) ?_
              refine Ev_norm (by rw [nI_clamp (by omega)]; exact W8 _ hk j (by show j < w.length; omega) : _ = nI (w.getD j 0)) ?_
              refine Ev_icmp_eq rfl (fun h96 => ?_) (fun h96 => ?_)
              · refine Ev_iincE rfl rfl (nI_1 j : _ = nI (j + 1)) ?_
                refine Ev_goto rfl ?_
                exact ih (j + 1) (by omega) hl (fun i hi => by
                by_cases hq2 : i = j
                · rw [hq2, hg]; exact (nI_eq (by omega) (by omega)).mp h96
                · exact hpre i (by omega))
              · refine Ev_const rfl ?_
                exact Ev_ireturn rfl rfl (narZ false) rfl ⟨by rw [decide_eq_false (fun z => h96 (by rw [← z, hg]))]; rfl, rfl, s8, c8⟩
          refine Ev_iload rfl rfl ?_
          refine Ev_aload rfl rfl rfl ?_
          refine Ev_getI rfl (by first | rfl | assumption) ?_
          refine Ev_norm s8.2.2.2.2.1 ?_
          refine Ev_isub rfl ?_
          refine Ev_norm (by rw [pk_sub (by omega), Nat.add_sub_cancel_left] : _ = nI (wrd U (skp U p.1)).length) ?_
          refine Ev_aload rfl rfl rfl ?_
          refine Ev_alen rfl k3 ?_
          refine Ev_norm (by rw [k2]; rfl : _ = nI w.length) ?_
          refine Ev_icmp_eq rfl (fun h69 => ?_) (fun h69 => ?_)
          · refine Ev_const rfl ?_
            refine Ev_istore rfl ?_
            exact lp w.length 0 (by omega) ((nI_eq (by omega) (by omega)).mp h69) (fun i hi => absurd hi (Nat.not_lt_zero i))
          · refine Ev_const rfl ?_
            exact Ev_ireturn rfl rfl (narZ false) rfl ⟨by rw [decide_eq_false (fun z => h69 (by rw [z]))]; rfl, rfl, s8, c8⟩
        have cnt : ∀ (m j : Nat), j + m = (wrd U (skp U p.1)).length → Ev l X (d + 1) 171 35 [.ref 326, .ref k, .int (nI (skp U p.1 + j)), .float 0] [] 402 402 402 ρ σ8 (fun v ρ' σ' => v = some (.int (bI (decide (wrd U (skp U p.1) = w)))) ∧ ρ' = ρ ∧ MTt σ' U (skM U (.inr p)) ∧ MX σ σ') := by
          intro m
          induction m with
          | zero =>
            intro j hj
            have hj : j = (wrd U (skp U p.1)).length := by omega
            subst hj
            have h256 := hT.2 (skp U p.1 + (wrd U (skp U p.1)).length)
            refine Ev_iload rfl rfl ?_
            refine Ev_aload rfl rfl rfl ?_
            refine Ev_getI rfl (by first | rfl | assumption) ?_
            refine Ev_norm s8.1 ?_
            refine Ev_icmp_ge rfl (fun h40 => ?_) (fun h40 => ?_)
            · exact fin
            · refine Ev_aload rfl rfl rfl ?_
              refine Ev_getR rfl (by first | rfl | assumption) (hρ _ _ _ rfl) ?_
              refine Ev_iload rfl rfl ?_
              refine Ev_iald rfl (by first | rfl | assumption) (vp_in_nI (n := skp U p.1 + (wrd U (skp U p.1)).length) (show skp U p.1 + (wrd U (skp U p.1)).length < 1600 by have : skp U p.1 + (wrd U (skp U p.1)).length ≠ U.1 := (fun z => h40 (nI_le (by omega) (by omega))); omega) (by decide)) ?_
              refine Ev_norm (by rw [nI_clamp (by omega)]; exact s8.2.1 _ (by have : skp U p.1 + (wrd U (skp U p.1)).length ≠ U.1 := (fun z => h40 (nI_le (by omega) (by omega))); omega) : _ = nI (U.2 (skp U p.1 + (wrd U (skp U p.1)).length))) ?_
              refine Ev_callS rfl rfl rfl rfl (same_n 402) (m_isLetter _ _) ?_
              rintro v49 ρ49 σ49 ⟨rfl, e49, g49⟩
              obtain rfl := e49.symm
              obtain rfl := g49.symm
              refine Ev_norm (by rw [ltI_n _ h256] : _ = bI (ltB (U.2 (skp U p.1 + (wrd U (skp U p.1)).length)))) ?_
              refine Ev_if_eq rfl (fun h52 => ?_) (fun h52 => absurd (hend.2.1.elim (fun z => absurd (nI_le z (by omega)) h40) (fun z => by rw [z]; rfl)) h52)
              exact fin
          | succ m ih =>
            intro j hj
            have h256 := hT.2 (skp U p.1 + j)
            refine Ev_iload rfl rfl ?_
            refine Ev_aload rfl rfl rfl ?_
            refine Ev_getI rfl (by first | rfl | assumption) ?_
            refine Ev_norm s8.1 ?_
            refine Ev_icmp_ge rfl (fun h40 => absurd h40 (nI_ge (by omega) (by omega))) (fun h40 => ?_)
            refine Ev_aload rfl rfl rfl ?_
            refine Ev_getR rfl (by first | rfl | assumption) (hρ _ _ _ rfl) ?_
            refine Ev_iload rfl rfl ?_
            refine Ev_iald rfl (by first | rfl | assumption) (vp_in_nI (n := skp U p.1 + j) (show skp U p.1 + j < 1600 by omega) (by decide)) ?_
            refine Ev_norm (by rw [nI_clamp (by omega)]; exact s8.2.1 _ (by omega) : _ = nI (U.2 (skp U p.1 + j))) ?_
            refine Ev_callS rfl rfl rfl rfl (same_n 402) (m_isLetter _ _) ?_
            rintro v49 ρ49 σ49 ⟨rfl, e49, g49⟩
            obtain rfl := e49.symm
            obtain rfl := g49.symm
            refine Ev_norm (by rw [ltI_n _ h256, (hend.2.2 j (by omega)).2] : _ = bI true) ?_
            refine Ev_if_eq rfl (fun h52 => absurd h52 (show ¬ bI true = 0 by decide)) (fun h52 => ?_)
            refine Ev_iincE rfl rfl (nI_1 (skp U p.1 + j) : _ = nI (skp U p.1 + (j + 1))) ?_
            refine Ev_goto rfl ?_
            exact ih (j + 1) (by omega)
        exact cnt _ 0 (Nat.zero_add _)
      · refine Ev_const rfl ?_
        exact Ev_ireturn rfl rfl (narZ false) rfl ⟨by rw [mWd_t (s8.2.2.2.2.2.2.1.mp (Decidable.not_not.mp h25).symm), decide_eq_false (Ne.symm k5)]; rfl, rfl, s8, c8⟩
theorem wd_mt {s : Rdg} {w : List Nat} (h : mWd U s = w) (hne : w ≠ []) : ∃ p, s = .inr p ∧ tcN U p.1 p.2 = 0 ∧ wrd U (skp U p.1) = w := by
  cases s with
  | inl e => exact absurd h.symm hne
  | inr p =>
    by_cases ht : tcN U p.1 p.2 = 0
    · exact ⟨p, rfl, ht, by rw [← mWd_y ht]; exact h⟩
    · rw [mWd_t ht] at h; exact absurd h.symm hne
/-- a word taken, if it stands there -/
def mTk (U : Tx) (w : List Nat) (s : Rdg) : Rdg := if mWd U s = w then adv w.length 1 (skM U s) else skM U s
def mAk (U : Tx) (w : List Nat) (s : Rdg) : Rdg := if mWd U s = w then adv w.length 1 (skM U s) else flA 1 0 (skM U s)
def mTs (U : Tx) (c : Nat) (s : Rdg) : Rdg := if mC U s = some c then adv 1 0 (skM U s) else skM U s
theorem m_takes (d : Nat) {σ : St} {s : Rdg} {k : Nat} {w : List Nat} (hρ : RF ρ) (hT : TxW U) (hW : Wds σ) (hk : (k, w) ∈ wdS) (H : MTt σ U s) :
    T l X (d + 2) 172 [.ref 326, .ref k] 402 402 ρ σ (fun v ρ' σ' => v = some (.int (bI (decide (mWd U s = w)))) ∧ ρ' = ρ ∧ MTt σ' U (mTk U w s) ∧ MX σ σ') := by
  have h16 := hT.1
  obtain ⟨k1, k2, k3, k4, k5, k6⟩ := wd_ok _ hk
  have k2 : (shp k).2 = w.length := k2
  have k3 : (Nat.blt k 402 && Nat.ble (shp k).1 3) = true := k3
  have k5 : w ≠ [] := k5
  have k6 : w.length < 10 := k6
  unfold mTk
  by_cases hq : mWd U s = w
  · obtain ⟨p, rfl, hp, hw⟩ := wd_mt hq k5
    rw [if_pos hq]
    refine T_of rfl ?_
    refine Ev_aload rfl rfl rfl ?_
    refine Ev_aload rfl rfl rfl ?_
    refine Ev_callV rfl rfl rfl rfl rfl (same_n 402) (m_isHere _ hρ hT hW hk H) ?_
    rintro v2 ρ2 σ2 ⟨rfl, e2, s2, c2⟩
    obtain rfl := e2.symm
    refine Ev_if_ne rfl (fun h5 => ?_) (fun h5 => absurd (by rw [decide_eq_true hq]; decide) h5)
    refine Ev_aload rfl rfl rfl ?_
    refine Ev_dup rfl (fun _ q => nomatch q) ?_
    refine Ev_getI rfl (by first | rfl | assumption) ?_
    refine Ev_norm s2.2.2.2.2.1 ?_
    refine Ev_aload rfl rfl rfl ?_
    refine Ev_alen rfl k3 ?_
    refine Ev_norm (by rw [k2]; rfl : _ = nI w.length) ?_
    refine Ev_iadd rfl ?_
    refine Ev_norm (nI_add (skp U p.1) w.length) ?_
    refine Ev_putI rfl (by first | rfl | assumption) ⟨rfl, rfl⟩ rfl ?_
    refine Ev_aload rfl rfl rfl ?_
    refine Ev_aload rfl rfl rfl ?_
    refine Ev_getI rfl (by first | rfl | assumption) ?_
    refine Ev_norm (by rw [sR_0, pk_us] : _ = nI (skp U p.1 + w.length)) ?_
    refine Ev_putI rfl (by first | rfl | assumption) ⟨rfl, rfl⟩ rfl ?_
    refine Ev_const rfl ?_
    exact Ev_ireturn rfl rfl (narZ true) rfl ⟨by rw [decide_eq_true hq]; rfl, rfl, by
    have hle : skp U p.1 ≤ U.1 := s2.2.2.1
    have hlen := wrd_len hle
    rw [hw] at hlen
    refine s2.mx ((mx_put _ rfl).tr (mx_put _ rfl)) ⟨hlen, (by decide : (1 : Nat) ≤ 2), ?_, ?_, ?_, ?_, ?_⟩
    · rw [sR_0, pk_un (by decide), sR_0, pk_us]
    · rw [sR_0, pk_us, nI_toInt (by omega)]; exact Int.le_refl _
    · rw [sR_0, pk_us]; exact ⟨fun _ => show (1 : Nat) ≠ 0 by decide, fun _ => rfl⟩
    · rw [sR_0, pk_un (by decide), sR_0, pk_un (by decide)]; exact s2.2.2.2.2.2.2.2.1
    · rw [sR_0, pk_un (by decide), sR_0, pk_un (by decide)]; exact s2.2.2.2.2.2.2.2.2, c2.tr ((mx_put _ rfl).tr (mx_put _ rfl))⟩
  · rw [if_neg hq]
    refine T_of rfl ?_
    refine Ev_aload rfl rfl rfl ?_
    refine Ev_aload rfl rfl rfl ?_
    refine Ev_callV rfl rfl rfl rfl rfl (same_n 402) (m_isHere _ hρ hT hW hk H) ?_
    rintro v2 ρ2 σ2 ⟨rfl, e2, s2, c2⟩
    obtain rfl := e2.symm
    refine Ev_if_ne rfl (fun h5 => absurd h5 (by rw [decide_eq_false hq]; decide)) (fun h5 => ?_)
    refine Ev_const rfl ?_
    exact Ev_ireturn rfl rfl (narZ false) rfl ⟨by rw [decide_eq_false hq]; rfl, rfl, s2, c2⟩
theorem atM {σ : St} {s : Rdg} (H : MTt σ U s) : ∀ p, s = .inr p → σ.1 326 2 = nI (rpos s + 0) := fun p hp => by subst hp; exact H.2.2.2.2.1
theorem m_asks (d : Nat) {σ : St} {s : Rdg} {k : Nat} {w : List Nat} (hρ : RF ρ) (hT : TxW U) (hW : Wds σ) (hk : (k, w) ∈ wdS) (H : MTt σ U s) :
    T l X (d + 3) 173 [.ref 326, .ref k] 402 402 ρ σ (fun v ρ' σ' => v = none ∧ ρ' = ρ ∧ MTt σ' U (mAk U w s) ∧ MX σ σ') := by
  have k5 : w ≠ [] := (wd_ok _ hk).2.2.2.2.1
  cases s with
  | inl e =>
    have g5 := H.2.2.2.2.1
    refine T_of rfl ?_
    refine Ev_aload rfl rfl rfl ?_
    refine Ev_getI rfl (by first | rfl | assumption) ?_
    refine Ev_norm H.2.2.1 ?_
    refine Ev_if_ne rfl (fun h4 => ?_) (fun h4 => absurd (nI_ne0 g5.1 (by omega)) h4)
    exact Ev_return rfl rfl rfl ⟨rfl, rfl, by unfold mAk; rw [show mWd U (.inl e) = [] from rfl, if_neg (Ne.symm k5)]; exact H, MF.rf _ _ _⟩
  | inr p =>
    refine T_of rfl ?_
    refine Ev_aload rfl rfl rfl ?_
    refine Ev_getI rfl (by first | rfl | assumption) ?_
    refine Ev_norm H.2.2.2.2.2.2.2.1 ?_
    refine Ev_if_ne rfl (fun h4 => absurd rfl h4) (fun h4 => ?_)
    refine Ev_aload rfl rfl rfl ?_
    refine Ev_aload rfl rfl rfl ?_
    refine Ev_callV rfl rfl rfl rfl rfl (same_n 402) (m_takes _ hρ hT hW hk H) ?_
    rintro v9 ρ9 σ9 ⟨rfl, e9, s9, c9⟩
    obtain rfl := e9.symm
    refine Ev_if_ne rfl (fun h12 => ?_) (fun h12 => ?_)
    · exact Ev_return rfl rfl rfl ⟨rfl, rfl, by unfold mAk; rw [if_pos (of_decide_eq_true (rt_of h12))]; unfold mTk at s9; rwa [if_pos (of_decide_eq_true (rt_of h12))] at s9, c9⟩
    · refine Ev_aload rfl rfl rfl ?_
      refine Ev_const rfl ?_
      refine Ev_aload rfl rfl rfl ?_
      refine Ev_getI rfl (by first | rfl | assumption) ?_
      refine Ev_callV rfl rfl rfl rfl rfl (same_n 402) (m_fail _ (w := 1) s9 (by decide) (atM s9)) ?_
      rintro v21 ρ21 σ21 ⟨rfl, e21, s21, c21⟩
      obtain rfl := e21.symm
      exact Ev_return rfl rfl rfl ⟨rfl, rfl, by
      have hz := of_decide_eq_false (ff_of (Decidable.not_not.mp h12))
      unfold mTk at s21
      rw [if_neg hz, ← flA_P] at s21
      unfold mAk; rw [if_neg hz]; exact s21, c9.tr c21⟩
/-- one byte on, nothing touched -/
theorem MTt.on1 {σ : St} {a tc : Nat} (H : MTt σ U (.inr (a, tc))) (h : a < U.1) (hT : TxW U) : MTt (sI σ 326 (upd (σ.1 326) 2 (nI (a + 1)))) U (.inr (a + 1, 0)) := by
  have h16 := hT.1
  have h5 : (σ.1 326 4).toInt ≤ (a : Int) := H.2.2.2.2.2.1
  refine H.mx (mx_put _ rfl) ⟨h, by show (0 : Nat) ≤ 2; omega, ?_, ?_, ?_, ?_, ?_⟩
  · rw [sR_0, pk_us]
  · rw [sR_0, pk_un (by decide)]; show _ ≤ ((a + 1 : Nat) : Int); omega
  · rw [sR_0, pk_un (by decide)]
    refine ⟨fun z => ?_, fun z => absurd rfl z⟩
    have z : σ.1 326 4 = nI (a + 1) := z
    rw [z, nI_toInt (by omega)] at h5
    omega
  · rw [sR_0, pk_un (by decide)]; exact H.2.2.2.2.2.2.2.1
  · rw [sR_0, pk_un (by decide)]; exact H.2.2.2.2.2.2.2.2
theorem m_takesSign (d : Nat) {σ : St} {s : Rdg} {c : Nat} (hρ : RF ρ) (hT : TxW U) (hc : c < 256) (H : MTt σ U s) :
    T l X (d + 1) 174 [.ref 326, .int (nI c)] 402 402 ρ σ (fun v ρ' σ' => v = some (.int (bI (decide (mC U s = some c)))) ∧ ρ' = ρ ∧ MTt σ' U (mTs U c s) ∧ MX σ σ') := by
  have h16 := hT.1
  unfold mTs
  cases s with
  | inl e =>
    have g5 := H.2.2.2.2.1
    rw [if_neg (show ¬ mC U (.inl e) = some c from fun z => by cases z), decide_eq_false (show ¬ mC U (.inl e) = some c from fun z => by cases z)]
    refine T_of rfl ?_
    refine Ev_aload rfl rfl rfl ?_
    refine Ev_getI rfl (by first | rfl | assumption) ?_
    refine Ev_norm H.2.2.1 ?_
    refine Ev_if_ne rfl (fun h4 => ?_) (fun h4 => absurd (nI_ne0 g5.1 (by omega)) h4)
    refine Ev_const rfl ?_
    exact Ev_ireturn rfl rfl (narZ false) rfl ⟨rfl, rfl, H, MF.rf _ _ _⟩
  | inr p =>
    have hev := lkV_eq (mC_256 hT (s := .inr p)) hc
    by_cases hq : mC U (.inr p) = some c
    · rw [if_pos hq, decide_eq_true hq]
      refine T_of rfl ?_
      refine Ev_aload rfl rfl rfl ?_
      refine Ev_getI rfl (by first | rfl | assumption) ?_
      refine Ev_norm H.2.2.2.2.2.2.2.1 ?_
      refine Ev_if_ne rfl (fun h4 => absurd rfl h4) (fun h4 => ?_)
      refine Ev_aload rfl rfl rfl ?_
      refine Ev_callV rfl rfl rfl rfl rfl (same_n 402) (m_look _ hρ hT H) ?_
      rintro v8 ρ8 σ8 ⟨⟨x, rfl, hx⟩, e8, s8, c8⟩
      obtain rfl := e8.symm
      have hx := hx rfl
      subst hx
      refine Ev_iload rfl rfl ?_
      refine Ev_icmp_eq rfl (fun h12 => ?_) (fun h12 => absurd (hev.mpr hq) h12)
      refine Ev_aload rfl rfl rfl ?_
      refine Ev_dup rfl (fun _ q => nomatch q) ?_
      refine Ev_getI rfl (by first | rfl | assumption) ?_
      refine Ev_norm s8.2.2.2.2.1 ?_
      refine Ev_const rfl ?_
      refine Ev_iadd rfl ?_
      refine Ev_norm (nI_1 (skp U p.1)) ?_
      refine Ev_putI rfl (by first | rfl | assumption) ⟨rfl, rfl⟩ rfl ?_
      refine Ev_const rfl ?_
      exact Ev_ireturn rfl rfl (narZ true) rfl ⟨rfl, rfl, s8.on1 (mC_at hq).1 hT, c8.tr (mx_put _ rfl)⟩
    · rw [if_neg hq, decide_eq_false hq]
      refine T_of rfl ?_
      refine Ev_aload rfl rfl rfl ?_
      refine Ev_getI rfl (by first | rfl | assumption) ?_
      refine Ev_norm H.2.2.2.2.2.2.2.1 ?_
      refine Ev_if_ne rfl (fun h4 => absurd rfl h4) (fun h4 => ?_)
      refine Ev_aload rfl rfl rfl ?_
      refine Ev_callV rfl rfl rfl rfl rfl (same_n 402) (m_look _ hρ hT H) ?_
      rintro v8 ρ8 σ8 ⟨⟨x, rfl, hx⟩, e8, s8, c8⟩
      obtain rfl := e8.symm
      have hx := hx rfl
      subst hx
      refine Ev_iload rfl rfl ?_
      refine Ev_icmp_eq rfl (fun h12 => absurd (hev.mp h12) hq) (fun h12 => ?_)
      refine Ev_const rfl ?_
      exact Ev_ireturn rfl rfl (narZ false) rfl ⟨rfl, rfl, s8, c8⟩
theorem m_asksSign (d : Nat) {σ : St} {s : Rdg} {c : Nat} (hρ : RF ρ) (hT : TxW U) (hc : c < 256) (H : MTt σ U s) :
    T l X (d + 2) 175 [.ref 326, .int (nI c)] 402 402 ρ σ (fun v ρ' σ' => v = none ∧ ρ' = ρ ∧ MTt σ' U (mAs U c s) ∧ MX σ σ') := by
  cases s with
  | inl e =>
    have g5 := H.2.2.2.2.1
    refine T_of rfl ?_
    refine Ev_aload rfl rfl rfl ?_
    refine Ev_getI rfl (by first | rfl | assumption) ?_
    refine Ev_norm H.2.2.1 ?_
    refine Ev_if_ne rfl (fun h4 => ?_) (fun h4 => absurd (nI_ne0 g5.1 (by omega)) h4)
    exact Ev_return rfl rfl rfl ⟨rfl, rfl, by unfold mAs; rw [if_neg (show ¬ mC U (.inl e) = some c from fun z => by cases z)]; exact H, MF.rf _ _ _⟩
  | inr p =>
    refine T_of rfl ?_
    refine Ev_aload rfl rfl rfl ?_
    refine Ev_getI rfl (by first | rfl | assumption) ?_
    refine Ev_norm H.2.2.2.2.2.2.2.1 ?_
    refine Ev_if_ne rfl (fun h4 => absurd rfl h4) (fun h4 => ?_)
    refine Ev_aload rfl rfl rfl ?_
    refine Ev_iload rfl rfl ?_
    refine Ev_callV rfl rfl rfl rfl rfl (same_n 402) (m_takesSign _ hρ hT hc H) ?_
    rintro v9 ρ9 σ9 ⟨rfl, e9, s9, c9⟩
    obtain rfl := e9.symm
    refine Ev_if_ne rfl (fun h12 => ?_) (fun h12 => ?_)
    · exact Ev_return rfl rfl rfl ⟨rfl, rfl, by unfold mAs; rw [if_pos (of_decide_eq_true (rt_of h12))]; unfold mTs at s9; rwa [if_pos (of_decide_eq_true (rt_of h12))] at s9, c9⟩
    · refine Ev_aload rfl rfl rfl ?_
      refine Ev_const rfl ?_
      refine Ev_aload rfl rfl rfl ?_
      refine Ev_getI rfl (by first | rfl | assumption) ?_
      refine Ev_callV rfl rfl rfl rfl rfl (same_n 402) (m_fail _ (w := 1) s9 (by decide) (atM s9)) ?_
      rintro v21 ρ21 σ21 ⟨rfl, e21, s21, c21⟩
      obtain rfl := e21.symm
      exact Ev_return rfl rfl rfl ⟨rfl, rfl, by
      have hz := of_decide_eq_false (ff_of (Decidable.not_not.mp h12))
      unfold mTs at s21
      rw [if_neg hz, ← flA_P] at s21
      unfold mAs; rw [if_neg hz]; exact s21, c9.tr c21⟩
end S88x
