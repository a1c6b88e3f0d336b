/-! A text read: the class's words, numbers, names. -/
def ltrs (w : List Nat) : Prop := ∀ c, c ∈ w → ltB c = true
def wlS (q : Nat) : List Nat := (strB q).map (fun x => x.toBitVec.toNat)
theorem sb_ltr : ∀ v, v < 256 → ∀ c, 97 ≤ c → c < 123 → (sb v = nI c ↔ v = c) := by
  intro v hv c h1 h2
  have e : (sb v).toInt = if v < 128 then (v : Int) else (v : Int) - 256 := by
    have : ∀ v, v < 256 → (sb v).toInt = if v < 128 then (v : Int) else (v : Int) - 256 := by decide +kernel
    exact this v hv
  constructor
  · intro h
    rw [h, nI_toInt (by omega)] at e
    split at e <;> omega
  · intro h
    subst h
    apply Int32.toInt_inj.mp
    rw [e, nI_toInt (by omega), if_pos (by omega)]
theorem ltB_r {c : Nat} (h : ltB c = true) : 97 ≤ c ∧ c < 123 := by
  unfold ltB at h
  simp only [Bool.and_eq_true, Nat.ble_eq] at h
  omega
theorem dgB_r {c : Nat} (h : dgB c = true) : 48 ≤ c ∧ c < 58 := by
  unfold dgB at h
  simp only [Bool.and_eq_true, Nat.ble_eq] at h
  omega
theorem getD_map {α β : Type} (f : α → β) (l : List α) (j : Nat) (d : α) : (l.map f).getD j (f d) = f (l.getD j d) := by
  rw [List.getD_eq_getElem?_getD, List.getD_eq_getElem?_getD, List.getElem?_map]
  cases l[j]? <;> rfl
theorem getD_mem {w : List Nat} {j : Nat} (h : j < w.length) : w.getD j 0 ∈ w := by
  rw [List.getD_eq_getElem?_getD, List.getElem?_eq_getElem h]
  exact List.getElem_mem h
theorem wlS_at (q j : Nat) : (strB q).getD j 0 = nI ((wlS q).getD j 0) := by
  have := getD_map (fun x : Int32 => x.toBitVec.toNat) (strB q) j 0
  unfold wlS
  rw [show (0 : Nat) = (fun x : Int32 => x.toBitVec.toNat) 0 from rfl, this]
  exact (nI_tb _).symm
theorem wlS_len (q : Nat) : (wlS q).length = (strB q).length := by unfold wlS; rw [List.length_map]
section S88i
variable {l : Launch} {X : Cx} {ρ : Rf} {U : Tx}
theorem t_isSpelt (d : Nat) {σ : St} {a tc q fr to : Nat} {w : List Nat} (hρ : RF ρ) (hT : TxW U) (hq : q < nStr) (hto : to ≤ (strB q).length) (hfr : fr + w.length = to) (hw : ∀ j, j < w.length → (strB q).getD (fr + j) 0 = nI (w.getD j 0)) (hl : ltrs w) (H : CTt σ U (.inr (a, tc))) :
    T l X (d + 4) 101 [.ref 316, .retAddr (2 * q), .int (nI fr), .int (nI to)] 400 400 ρ σ (Rs (.int (bI (decide (wrd U a = w)))) ρ σ) := by
  obtain ⟨h1, h2, h3, h4, h5, h6, h7, h8⟩ := H
  have u16 := hT.1
  have hs := (str_small q hq).1
  have his := wrd_is (T := U) w a hl
  have h3 : a ≤ U.1 := h3
  have loop : ∀ (m j : Nat), j + m = w.length → a + w.length ≤ U.1 → (∀ i, i < j → U.2 (a + i) = w.getD i 0) →
      Ev l X (d + 4) 101 24 [.ref 316, .retAddr (2 * q), .int (nI fr), .int (nI to), .int (nI (a + w.length)), .int (nI (fr + j))] [] 400 400 400 ρ σ (Rs (.int (bI (decide (wrd U a = w)))) ρ σ) := by
    intro m
    induction m with
    | zero =>
      intro j hj hle hpre
      have hj : j = w.length := by omega
      subst hj
      rw [hfr]
      have h256 := hT.2 (a + w.length)
      refine Ev_iload rfl rfl ?_
      refine Ev_iload rfl rfl ?_
      refine Ev_icmp_ge rfl (fun h27 => ?_) (fun h27 => absurd (nI_le (Nat.le_refl _) (by omega)) h27)
      refine Ev_iload rfl rfl ?_
      refine Ev_aload rfl rfl rfl ?_
      refine Ev_getI rfl (by first | rfl | assumption) ?_
      refine Ev_norm h1 ?_
      refine Ev_icmp_eq rfl (fun h67 => ?_) (fun h67 => ?_)
      · refine Ev_const rfl ?_
        refine Ev_goto rfl ?_
        exact Ev_ireturn rfl rfl rfl rfl ⟨by
        have hn := (nI_eq (by omega) (by omega)).mp h67
        rw [decide_eq_true (his.mp ⟨hle, hpre, Or.inl (by omega)⟩).2]; rfl, rfl, rfl⟩
      · refine Ev_aload rfl rfl rfl ?_
        refine Ev_getR rfl (by first | rfl | assumption) (hρ _ _ _ rfl) ?_
        refine Ev_iload rfl rfl ?_
        refine Ev_bald rfl (by first | rfl | assumption) (vp_in_nI (n := a + w.length) (show a + w.length < 1600 by have : a + w.length ≠ U.1 := (fun z => h67 (by rw [z])); omega) (by decide)) ?_
        refine Ev_norm (by rw [nI_clamp (by omega)]; exact h2 _ (by have : a + w.length ≠ U.1 := (fun z => h67 (by rw [z])); omega) : _ = sb (U.2 (a + w.length))) ?_
        refine Ev_callS rfl rfl rfl rfl (same_n 400) (t_isLetter _ _) ?_
        rintro v77 ρ77 σ77 ⟨rfl, e77, g77⟩
        obtain rfl := e77.symm
        obtain rfl := g77.symm
        refine Ev_norm (by rw [ltI_sb _ h256] : _ = bI (ltB (U.2 (a + w.length)))) ?_
        refine Ev_if_ne rfl (fun h80 => ?_) (fun h80 => ?_)
        · refine Ev_const rfl ?_
          exact Ev_ireturn rfl rfl rfl rfl ⟨by rw [decide_eq_false (fun z => by have := (his.mpr ⟨h3, z⟩).2.2; rw [rt_of h80] at this; exact this.elim (fun q1 => h67 (by rw [show a + w.length = U.1 by omega])) (fun q1 => by cases q1))]; rfl, rfl, rfl⟩
        · refine Ev_const rfl ?_
          refine Ev_goto rfl ?_
          exact Ev_ireturn rfl rfl rfl rfl ⟨by rw [decide_eq_true (his.mp ⟨hle, hpre, Or.inr (ff_of (Decidable.not_not.mp h80))⟩).2]; rfl, rfl, rfl⟩
    | succ m ih =>
      intro j hj hle hpre
      have hjl : j < w.length := by omega
      have h256 := hT.2 (a + j)
      have hlj := ltB_r (hl (w.getD j 0) (getD_mem hjl))
      have hsb := sb_ltr _ h256 _ hlj.1 hlj.2
      refine Ev_iload rfl rfl ?_
      refine Ev_iload rfl rfl ?_
      refine Ev_icmp_ge rfl (fun h27 => absurd h27 (nI_ge (by omega) (by omega))) (fun h27 => ?_)
      refine Ev_aload rfl rfl rfl ?_
      refine Ev_getR rfl (by first | rfl | assumption) (hρ _ _ _ rfl) ?_
      refine Ev_aload rfl rfl rfl ?_
      refine Ev_getI rfl (by first | rfl | assumption) ?_
      refine Ev_norm h5 ?_
      refine Ev_iload rfl rfl ?_
      refine Ev_iadd rfl ?_
      refine Ev_norm (nI_add a (fr + j)) ?_
      refine Ev_iload rfl rfl ?_
      refine Ev_isub rfl ?_
      refine Ev_norm (show _ = nI (a + j) by rw [pk_sub (by omega), show a + (fr + j) - fr = a + j by omega]) ?_
      refine Ev_bald rfl (by first | rfl | assumption) (vp_in_nI (n := a + j) (show a + j < 1600 by omega) (by decide)) ?_
      refine Ev_norm (by rw [nI_clamp (by omega)]; exact h2 _ (by omega) : _ = sb (U.2 (a + j))) ?_
      refine Ev_aload rfl rfl rfl ?_
      refine Ev_iload rfl rfl ?_
      refine Ev_callT rfl rfl rfl (by first | decide | assumption) rfl (same_n 400) (t_charAt _ hq (by omega)) ?_
      rintro v47 ρ47 σ47 ⟨rfl, e47, g47⟩
      obtain rfl := e47.symm
      obtain rfl := g47.symm
      refine Ev_norm (hw j hjl) ?_
      refine Ev_icmp_eq rfl (fun h50 => ?_) (fun h50 => ?_)
      · refine Ev_iincE rfl rfl (nI_1 (fr + j) : _ = nI (fr + (j + 1))) ?_
        refine Ev_goto rfl ?_
        exact ih (j + 1) (by omega) hle (fun i hi => by
        by_cases hq2 : i = j
        · rw [hq2]; exact hsb.mp h50
        · exact hpre i (by omega))
      · refine Ev_const rfl ?_
        exact Ev_ireturn rfl rfl rfl rfl ⟨by rw [decide_eq_false (fun z => h50 (hsb.mpr ((his.mpr ⟨h3, z⟩).2.1 j hjl)))]; rfl, rfl, rfl⟩
  refine T_of rfl ?_
  refine Ev_aload rfl rfl rfl ?_
  refine Ev_getI rfl (by first | rfl | assumption) ?_
  refine Ev_norm h5 ?_
  refine Ev_iload rfl rfl ?_
  refine Ev_iadd rfl ?_
  refine Ev_norm (nI_add a to) ?_
  refine Ev_iload rfl rfl ?_
  refine Ev_isub rfl ?_
  refine Ev_norm (show _ = nI (a + w.length) by rw [pk_sub (by omega), show a + to - fr = a + w.length by omega]) ?_
  refine Ev_istore rfl ?_
  refine Ev_iload rfl rfl ?_
  refine Ev_aload rfl rfl rfl ?_
  refine Ev_getI rfl (by first | rfl | assumption) ?_
  refine Ev_norm h1 ?_
  refine Ev_icmp_le rfl (fun h16 => ?_) (fun h16 => ?_)
  · refine Ev_iload rfl rfl ?_
    refine Ev_istore rfl ?_
    exact loop w.length 0 (by omega) ((nI_leI (by omega) (by omega)).mp h16) (fun i hi => absurd hi (Nat.not_lt_zero i))
  · refine Ev_const rfl ?_
    exact Ev_ireturn rfl rfl rfl rfl ⟨by rw [decide_eq_false (fun z => h16 (nI_le (his.mpr ⟨h3, z⟩).1 (by omega)))]; rfl, rfl, rfl⟩
/-- the word that a look shows -/
theorem wAt_of {s : Rdg} {a tc c : Nat} (h1 : lkC U s = some c) (h2 : lkS U s = .inr (a, tc)) : wAt U s = wrd U a := by
  unfold wAt
  rw [h1, h2]
theorem wAt_no {s : Rdg} (hT : TxW U) (h : ltI (lkV (lkC U s)) = false) : wAt U s = [] := by
  unfold wAt
  cases hc : lkC U s with
  | none => rfl
  | some c =>
    obtain ⟨a, tc, e1, e2, e3, _⟩ := lk_some hc
    rw [e1]
    rw [hc] at h
    have h : ltI (nI c) = false := h
    rw [ltI_n _ (by rw [← e3]; exact hT.2 a)] at h
    exact wrd_e (Or.inr (by rw [e3]; exact h))
theorem wAt_yes {s : Rdg} (hT : TxW U) (h : ltI (lkV (lkC U s)) = true) : ∃ a tc, lkS U s = .inr (a, tc) ∧ a < U.1 ∧ wAt U s = wrd U a ∧ wrd U a ≠ [] := by
  cases hc : lkC U s with
  | none => rw [hc] at h; exact absurd h (by decide)
  | some c =>
    obtain ⟨a, tc, e1, e2, e3, _⟩ := lk_some hc
    rw [hc] at h
    have h : ltI (nI c) = true := h
    rw [ltI_n _ (by rw [← e3]; exact hT.2 a)] at h
    exact ⟨a, tc, e1, e2, wAt_of hc e1, wrd_ne.mpr ⟨e2, by rw [e3]; exact h⟩⟩
theorem t_seesWord (d : Nat) {σ : St} {s : Rdg} {q : Nat} (hρ : RF ρ) (hT : TxW U) (hq : q < nStr) (hl : ltrs (wlS q)) (hne : wlS q ≠ []) (H : CTt σ U s) :
    T l X (d + 5) 102 [.ref 316, .retAddr (2 * q)] 400 400 ρ σ (fun v ρ' σ' => v = some (.int (bI (decide (wAt U s = wlS q)))) ∧ ρ' = ρ ∧ CTt σ' U (lkS U s) ∧ CF cTt σ σ') := by
  cases hc : ltI (lkV (lkC U s)) with
  | false =>
    rw [wAt_no hT hc, decide_eq_false (Ne.symm hne)]
    refine T_of rfl ?_
    refine Ev_aload rfl rfl rfl ?_
    refine Ev_callV rfl rfl rfl rfl rfl (same_n 400) (t_look _ hρ hT H) ?_
    rintro v1 ρ1 σ1 ⟨rfl, e1, s1, c1⟩
    obtain rfl := e1.symm
    refine Ev_callS rfl rfl rfl rfl (same_n 400) (t_isLetter _ _) ?_
    rintro v4 ρ4 σ4 ⟨rfl, e4, g4⟩
    obtain rfl := e4.symm
    obtain rfl := g4.symm
    refine Ev_if_eq rfl (fun h7 => ?_) (fun h7 => absurd (by rw [hc]; rfl) h7)
    refine Ev_const rfl ?_
    exact Ev_ireturn rfl rfl rfl rfl ⟨rfl, rfl, s1, c1⟩
  | true =>
    obtain ⟨a, tc, e1, e2, e3, e4⟩ := wAt_yes hT hc
    rw [e3, e1]
    refine T_of rfl ?_
    refine Ev_aload rfl rfl rfl ?_
    refine Ev_callV rfl rfl rfl rfl rfl (same_n 400) (t_look _ hρ hT H) ?_
    rintro v1 ρ1 σ1 ⟨rfl, e1', s1, c1⟩
    obtain rfl := e1'.symm
    rw [e1] at s1
    refine Ev_callS rfl rfl rfl rfl (same_n 400) (t_isLetter _ _) ?_
    rintro v4 ρ4 σ4 ⟨rfl, e4, g4⟩
    obtain rfl := e4.symm
    obtain rfl := g4.symm
    refine Ev_if_eq rfl (fun h7 => absurd h7 (by rw [hc]; decide)) (fun h7 => ?_)
    refine Ev_aload rfl rfl rfl ?_
    refine Ev_aload rfl rfl rfl ?_
    refine Ev_const rfl ?_
    refine Ev_aload rfl rfl rfl ?_
    refine Ev_callT rfl rfl rfl (by first | decide | assumption) rfl (same_n 400) (t_length _ hq) ?_
    rintro v14 ρ14 σ14 ⟨rfl, e14, g14⟩
    obtain rfl := e14.symm
    obtain rfl := g14.symm
    refine Ev_callV rfl rfl rfl rfl rfl (same_n 400) (t_isSpelt _ (fr := 0) (w := wlS q) hρ hT hq (Nat.le_refl _) (by rw [wlS_len, Nat.zero_add]) (fun j _ => by rw [Nat.zero_add]; exact wlS_at q j) hl s1) ?_
    rintro v17 ρ17 σ17 ⟨rfl, e17, g17⟩
    obtain rfl := e17.symm
    obtain rfl := g17.symm
    refine Ev_if_eq rfl (fun h20 => ?_) (fun h20 => ?_)
    · refine Ev_const rfl ?_
      exact Ev_ireturn rfl rfl rfl rfl ⟨by rw [ff_of h20]; rfl, rfl, s1, c1⟩
    · refine Ev_const rfl ?_
      refine Ev_goto rfl ?_
      exact Ev_ireturn rfl rfl rfl rfl ⟨by rw [rt_of h20]; rfl, rfl, s1, c1⟩
theorem t_takeWord (d : Nat) {σ : St} {s : Rdg} {q : Nat} (hρ : RF ρ) (hT : TxW U) (hq : q < nStr) (hl : ltrs (wlS q)) (hne : wlS q ≠ []) (H : CTt σ U s) :
    T l X (d + 6) 103 [.ref 316, .retAddr (2 * q)] 400 400 ρ σ (fun v ρ' σ' => v = some (.int (bI (decide (wAt U s = wlS q)))) ∧ ρ' = ρ ∧ CTt σ' U (tWd U (wlS q) s) ∧ CF cTt σ σ') := by
  unfold tWd
  by_cases hw : wAt U s = wlS q
  · have hc : ltI (lkV (lkC U s)) = true := by
      cases hq2 : ltI (lkV (lkC U s)) with
      | true => rfl
      | false => rw [wAt_no hT hq2] at hw; exact absurd hw.symm hne
    obtain ⟨a, tc, e1, e2, e3, e4⟩ := wAt_yes hT hc
    have hend := (wrd_end (T := U) _ a rfl).1 (by omega)
    rw [← e3, hw] at hend
    rw [if_pos hw, decide_eq_true hw, e1]
    refine T_of rfl ?_
    refine Ev_aload rfl rfl rfl ?_
    refine Ev_aload rfl rfl rfl ?_
    refine Ev_callV rfl rfl rfl rfl rfl (same_n 400) (t_seesWord _ hρ hT hq hl hne H) ?_
    rintro v2 ρ2 σ2 ⟨rfl, e2', s2, c2⟩
    obtain rfl := e2'.symm
    rw [e1] at s2
    refine Ev_if_ne rfl (fun h5 => ?_) (fun h5 => absurd (by rw [decide_eq_true hw]; decide) h5)
    refine Ev_aload rfl rfl rfl ?_
    refine Ev_aload rfl rfl rfl ?_
    refine Ev_callT rfl rfl rfl (by first | decide | assumption) rfl (same_n 400) (t_length _ hq) ?_
    rintro v12 ρ12 σ12 ⟨rfl, e12, g12⟩
    obtain rfl := e12.symm
    obtain rfl := g12.symm
    refine Ev_const rfl ?_
    refine Ev_callV rfl rfl rfl rfl rfl (same_n 400) (t_goOn _ (k := (strB q).length) (tc := 1) s2 (by rw [← wlS_len]; exact hend) (by decide)) ?_
    rintro v16 ρ16 σ16 ⟨rfl, e16, s16, c16⟩
    obtain rfl := e16.symm
    refine Ev_const rfl ?_
    exact Ev_ireturn rfl rfl rfl rfl ⟨rfl, rfl, by rw [wlS_len]; exact s16, c2.tr c16⟩
  · rw [if_neg hw, decide_eq_false hw]
    refine T_of rfl ?_
    refine Ev_aload rfl rfl rfl ?_
    refine Ev_aload rfl rfl rfl ?_
    refine Ev_callV rfl rfl rfl rfl rfl (same_n 400) (t_seesWord _ hρ hT hq hl hne H) ?_
    rintro v2 ρ2 σ2 ⟨rfl, e2', s2, c2⟩
    obtain rfl := e2'.symm
    refine Ev_if_ne rfl (fun h5 => absurd h5 (by rw [decide_eq_false hw]; decide)) (fun h5 => ?_)
    refine Ev_const rfl ?_
    exact Ev_ireturn rfl rfl rfl rfl ⟨rfl, rfl, s2, c2⟩
theorem t_askWord (d : Nat) {σ : St} {s : Rdg} {q : Nat} (hρ : RF ρ) (hT : TxW U) (hq : q < nStr) (hl : ltrs (wlS q)) (hne : wlS q ≠ []) (H : CTt σ U s) :
    T l X (d + 7) 104 [.ref 316, .retAddr (2 * q)] 400 400 ρ σ (fun v ρ' σ' => v = none ∧ ρ' = ρ ∧ CTt σ' U (aWd U (wlS q) s) ∧ CF cTt σ σ') := by
  refine T_of rfl ?_
  refine Ev_aload rfl rfl rfl ?_
  refine Ev_aload rfl rfl rfl ?_
  refine Ev_callV rfl rfl rfl rfl rfl (same_n 400) (t_takeWord _ hρ hT hq hl hne H) ?_
  rintro v2 ρ2 σ2 ⟨rfl, e2, s2, c2⟩
  obtain rfl := e2.symm
  refine Ev_if_ne rfl (fun h5 => ?_) (fun h5 => ?_)
  · exact Ev_return rfl rfl rfl ⟨rfl, rfl, by unfold aWd; rw [if_pos (of_decide_eq_true (rt_of h5))]; unfold tWd at s2; rwa [if_pos (of_decide_eq_true (rt_of h5))] at s2, c2⟩
  · refine Ev_aload rfl rfl rfl ?_
    refine Ev_const rfl ?_
    refine Ev_aload rfl rfl rfl ?_
    refine Ev_getI rfl (by first | rfl | assumption) ?_
    refine Ev_callV rfl rfl rfl rfl rfl (same_n 400) (t_fail _ (w := 1) s2 (by decide) (atV s2)) ?_
    rintro v14 ρ14 σ14 ⟨rfl, e14, s14, c14⟩
    obtain rfl := e14.symm
    exact Ev_return rfl rfl rfl ⟨rfl, rfl, by
    have hz := of_decide_eq_false (ff_of (Decidable.not_not.mp h5))
    unfold tWd at s14
    rw [if_neg hz, ← flA_P] at s14
    unfold aWd; rw [if_neg hz]; exact s14, c2.tr c14⟩
end S88i
