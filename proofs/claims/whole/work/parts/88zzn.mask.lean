/-! A question read by the reference. -/
def akK (U : Tx) : Nat := akN (wAt U (.inr (0, 0)))
def akY (U : Tx) : Xs := akF U (akK U) (akS U (.inr (0, 0)))
def akR (U : Tx) : Rdg := akE U (akY U).1
theorem akN_w {w : List Nat} (h : akN w < 5) : w = kw (32 + akN w) := by
  by_cases h0 : w = kw 32
  · rw [akN_0 h0]; exact h0
  · by_cases h1 : w = kw 33
    · rw [akN_1 h0 h1]; exact h1
    · by_cases h2 : w = kw 34
      · rw [akN_2 h0 h1 h2]; exact h2
      · by_cases h3 : w = kw 35
        · rw [akN_3 h0 h1 h2 h3]; exact h3
        · by_cases h4 : w = kw 36
          · rw [akN_4 h0 h1 h2 h3 h4]; exact h4
          · rw [akN_5 h0 h1 h2 h3 h4] at h; exact absurd h (by decide)
theorem kwq_ne : ∀ j, j ≤ 5 → kw (32 + j) ≠ [] := by decide
theorem akS_a (U : Tx) (s : Rdg) : akS U s = aWd U (kw (32 + akN (wAt U s))) s := by
  by_cases h : akN (wAt U s) < 5
  · unfold akS tWd aWd
    rw [if_pos h, if_pos (akN_w h), if_pos (akN_w h)]
  · have h5 : akN (wAt U s) = 5 := by have := akN_le (wAt U s); omega
    rw [akS_n h5, h5]
theorem Ivr_00 (U : Tx) : Ivr U (.inr (0, 0)) := ⟨Nat.zero_le _, Nat.zero_le _, fun z => (by cases z), fun z => (by cases z)⟩
theorem Ivr_ak (U : Tx) : Ivr U (akS U (.inr (0, 0))) := by
  rw [akS_a]; exact Ivr_aW (Ivr_00 U) (kwq_ne _ (akN_le _))
/-- a question that is well told -/
theorem ak_ok {U : Tx} (hT : TxW U) : Ivr U (akY U).1 ∧ (isOk (akY U).1 = true → (akY U).2.length ≤ 1600 ∧ wty 4 (akY U).2 [] = some [Nat.ble (akK U) 2]) := by
  have hI := Ivr_ak U
  have h16 := hT.1
  unfold akY
  generalize akS U (.inr (0, 0)) = s at *
  cases s with
  | inl e =>
    have : (akF U (akK U) (.inl e)).1 = .inl e := by
      unfold akF
      split
      · exact fl_te (D := lvl U 4 5) e []
      · exact fl_sm (D := lvl U 4 5) e []
    rw [this]
    exact ⟨trivial, fun z => by cases z⟩
  | inr q =>
    unfold akF
    by_cases h2 : akK U ≤ 2
    · rw [if_pos h2, Nat.ble_eq.mpr h2]
      have P := (te_fin hT (show 4 < 5 by decide) hI).2
      generalize (lvl U 4 6).2.1 (.inr q, []) = x at *
      obtain ⟨s', out⟩ := x
      cases s' with
      | inl e => exact ⟨trivial, fun z => by cases z⟩
      | inr p =>
        obtain ⟨g1, g2, g3⟩ := P rfl
        have g4 := rpos_le g1 rfl
        exact ⟨g1, fun _ => ⟨by show out.length ≤ 1600; have g2 : out.length + q.1 ≤ rpos (.inr p) := g2; have g4 : rpos (.inr p) ≤ U.1 := g4; omega, g3⟩⟩
    · rw [if_neg h2, show Nat.ble (akK U) 2 = false from by cases hz : Nat.ble (akK U) 2 with | false => rfl | true => exact absurd (Nat.ble_eq.mp hz) h2]
      have P := (su_fin hT (show 4 < 5 by decide) hI).2
      generalize (lvl U 4 6).2.2.1 (.inr q, []) = x at *
      obtain ⟨s', out⟩ := x
      cases s' with
      | inl e => exact ⟨trivial, fun z => by cases z⟩
      | inr p =>
        obtain ⟨g1, g2, g3⟩ := P rfl
        have g4 := rpos_le g1 rfl
        exact ⟨g1, fun _ => ⟨by show out.length ≤ 1600; have g2 : out.length + q.1 ≤ rpos (.inr p) := g2; have g4 : rpos (.inr p) ≤ U.1 := g4; omega, g3⟩⟩
theorem akE_ok {U : Tx} {s : Rdg} (h : isOk (akE U s) = true) : isOk s = true := by
  cases s with
  | inr p => rfl
  | inl e => exact h
theorem mTk_t {U : Tx} {p : Nat × Nat} {w : List Nat} (hI : Ivr U (.inr p)) (hc : cfT U p = false) : mTk U w (.inr p) = tWd U w (.inr p) := by
  obtain ⟨c1, c2, c3, -⟩ := cf_no hI hc
  unfold mTk tWd
  rw [c1, c3]
theorem MX.tr_ {σ σ1 σ2 : St} (a : MX σ σ1) (b : MX σ1 σ2) : MX σ σ2 := MF.tr a b
section S88zzn
variable {l : Launch} {X : Cx} {ρ : Rf} {U : Tx}
theorem m_qKind (d : Nat) {σ : St} (hρ : RF ρ) (hT : TxW U) (hW : Wds σ) (H : MTt σ U (.inr (0, 0))) :
    T l X (d + 4) 288 [.ref 326] 402 402 ρ σ (fun v ρ' σ' => v = some (.int (nI (akK U))) ∧ ρ' = ρ ∧ MTt σ' U (akS U (.inr (0, 0))) ∧ MX σ σ') := by
  have hI := Ivr_00 U
  have hc := cf_0 (U := U) (p := (0, 0)) rfl
  obtain ⟨c1, -⟩ := cf_no hI hc
  obtain ⟨p, hp⟩ : ∃ p, lkS U (.inr (0, 0)) = .inr p := ⟨_, c1⟩
  have hL : LkO U p := LkO.of (by rw [← hp]; exact Ivr_lk hI) (by rw [← hp, lkS_i])
  have hcp := cf_lk hL.2.2.2
  have hwp : mWd U (.inr p) = wAt U (.inr (0, 0)) := by rw [hL.2.2.1, ← hp, wAt_i]
  have htp : ∀ w, mTk U w (.inr p) = tWd U w (.inr (0, 0)) := fun w => by rw [mTk_t hL.1 hcp, ← hp, tWd_i]
  have hw0 : mWd U (.inr (0, 0)) = wAt U (.inr (0, 0)) := (cf_no hI hc).2.2.1.symm
  have hap : mAk U (kw 37) (.inr p) = aWd U (kw 37) (.inr (0, 0)) := by rw [mAk_a hL.1 (by decide), ← hp, aWd_i]
  unfold akK
  -- behind the word
  have fin : ∀ (j : Nat) (L : Value) (σ1 : St), j < 5 → akN (wAt U (.inr (0, 0))) = j → MTt σ1 U (tWd U (kw (32 + j)) (.inr (0, 0))) → MX σ σ1 → Ev l X (d + 4) 288 76 [.ref 326, L] [.int (nI j)] 402 402 402 ρ σ1 (fun v ρ' σ' => v = some (.int (nI (akN (wAt U (.inr (0, 0)))))) ∧ ρ' = ρ ∧ MTt σ' U (akS U (.inr (0, 0))) ∧ MX σ σ') := by
    intro j L σ1 hj hk h1 h2
    rw [hk, akS_y hk hj]
    refine Ev_istore rfl ?_
    refine Ev_iload rfl rfl ?_
    refine Ev_const rfl ?_
    refine Ev_icmp_ne rfl (fun h79 => ?_) (fun h79 => absurd ((nI_eq (b := 5) (by omega) (by decide)).mp (Decidable.not_not.mp h79)) (by omega))
    refine Ev_iload rfl rfl ?_
    exact Ev_ireturn rfl rfl rfl rfl ⟨rfl, rfl, h1, h2⟩
  refine T_of rfl ?_
  refine Ev_aload rfl rfl rfl ?_
  refine Ev_aload rfl rfl rfl ?_
  refine Ev_getR rfl (by first | rfl | assumption) (hρ _ _ _ rfl) ?_
  refine Ev_callV rfl rfl rfl rfl rfl (same_n 402) (m_takes _ hρ hT hW (k := 375) (w := kw 32) (by decide) H) ?_
  rintro v5 ρ5 σ5 ⟨rfl, e5, s5, c5⟩
  refine Ev_norm (by rw [hw0] : _ = bI (decide (wAt U (.inr (0, 0)) = kw 32))) ?_
  obtain rfl := e5.symm
  rw [mTk_t hI hc] at s5
  refine Ev_if_eq rfl (fun h8 => ?_) (fun h8 => ?_)
  · have g0 : ¬ wAt U (.inr (0, 0)) = kw 32 := of_decide_eq_false (ff_of h8)
    rw [tWd_n g0, hp] at s5
    refine Ev_aload rfl rfl rfl ?_
    refine Ev_aload rfl rfl rfl ?_
    refine Ev_getR rfl (by first | rfl | assumption) (hρ _ _ _ rfl) ?_
    refine Ev_callV rfl rfl rfl rfl rfl (same_n 402) (m_takes _ hρ hT (hW.mx c5) (k := 376) (w := kw 33) (by decide) s5) ?_
    rintro v20 ρ20 σ20 ⟨rfl, e20, s20, c20⟩
    refine Ev_norm (by rw [hwp] : _ = bI (decide (wAt U (.inr (0, 0)) = kw 33))) ?_
    obtain rfl := e20.symm
    rw [htp] at s20
    refine Ev_if_eq rfl (fun h23 => ?_) (fun h23 => ?_)
    · have g1 : ¬ wAt U (.inr (0, 0)) = kw 33 := of_decide_eq_false (ff_of h23)
      rw [tWd_n g1, hp] at s20
      refine Ev_aload rfl rfl rfl ?_
      refine Ev_aload rfl rfl rfl ?_
      refine Ev_getR rfl (by first | rfl | assumption) (hρ _ _ _ rfl) ?_
      refine Ev_callV rfl rfl rfl rfl rfl (same_n 402) (m_takes _ hρ hT ((hW.mx c5).mx c20) (k := 377) (w := kw 34) (by decide) s20) ?_
      rintro v35 ρ35 σ35 ⟨rfl, e35, s35, c35⟩
      refine Ev_norm (by rw [hwp] : _ = bI (decide (wAt U (.inr (0, 0)) = kw 34))) ?_
      obtain rfl := e35.symm
      rw [htp] at s35
      refine Ev_if_eq rfl (fun h38 => ?_) (fun h38 => ?_)
      · have g2 : ¬ wAt U (.inr (0, 0)) = kw 34 := of_decide_eq_false (ff_of h38)
        rw [tWd_n g2, hp] at s35
        refine Ev_aload rfl rfl rfl ?_
        refine Ev_aload rfl rfl rfl ?_
        refine Ev_getR rfl (by first | rfl | assumption) (hρ _ _ _ rfl) ?_
        refine Ev_callV rfl rfl rfl rfl rfl (same_n 402) (m_takes _ hρ hT (((hW.mx c5).mx c20).mx c35) (k := 378) (w := kw 35) (by decide) s35) ?_
        rintro v50 ρ50 σ50 ⟨rfl, e50, s50, c50⟩
        refine Ev_norm (by rw [hwp] : _ = bI (decide (wAt U (.inr (0, 0)) = kw 35))) ?_
        obtain rfl := e50.symm
        rw [htp] at s50
        refine Ev_if_eq rfl (fun h53 => ?_) (fun h53 => ?_)
        · have g3 : ¬ wAt U (.inr (0, 0)) = kw 35 := of_decide_eq_false (ff_of h53)
          rw [tWd_n g3, hp] at s50
          refine Ev_aload rfl rfl rfl ?_
          refine Ev_aload rfl rfl rfl ?_
          refine Ev_getR rfl (by first | rfl | assumption) (hρ _ _ _ rfl) ?_
          refine Ev_callV rfl rfl rfl rfl rfl (same_n 402) (m_takes _ hρ hT ((((hW.mx c5).mx c20).mx c35).mx c50) (k := 379) (w := kw 36) (by decide) s50) ?_
          rintro v65 ρ65 σ65 ⟨rfl, e65, s65, c65⟩
          refine Ev_norm (by rw [hwp] : _ = bI (decide (wAt U (.inr (0, 0)) = kw 36))) ?_
          obtain rfl := e65.symm
          rw [htp] at s65
          refine Ev_if_eq rfl (fun h68 => ?_) (fun h68 => ?_)
          · have g4 : ¬ wAt U (.inr (0, 0)) = kw 36 := of_decide_eq_false (ff_of h68)
            rw [tWd_n g4, hp] at s65
            refine Ev_const rfl ?_
            rw [akN_5 g0 g1 g2 g3 g4, akS_n (akN_5 g0 g1 g2 g3 g4)]
            refine Ev_istore rfl ?_
            refine Ev_iload rfl rfl ?_
            refine Ev_const rfl ?_
            refine Ev_icmp_ne rfl (fun h79 => absurd rfl h79) (fun h79 => ?_)
            refine Ev_aload rfl rfl rfl ?_
            refine Ev_aload rfl rfl rfl ?_
            refine Ev_getR rfl (by first | rfl | assumption) (hρ _ _ _ rfl) ?_
            refine Ev_callV rfl rfl rfl rfl rfl (same_n 402) (m_asks _ hρ hT (((((hW.mx c5).mx c20).mx c35).mx c50).mx c65) (k := 380) (w := kw 37) (by decide) s65) ?_
            rintro v87 ρ87 σ87 ⟨rfl, e87, s87, c87⟩
            obtain rfl := e87.symm
            rw [hap] at s87
            refine Ev_iload rfl rfl ?_
            exact Ev_ireturn rfl rfl rfl rfl ⟨rfl, rfl, s87, MX.tr_ (MX.tr_ (MX.tr_ (MX.tr_ (MX.tr_ c5 c20) c35) c50) c65) c87⟩
          · have g4 : wAt U (.inr (0, 0)) = kw 36 := of_decide_eq_true (rt_of h68)
            refine Ev_const rfl ?_
            refine Ev_goto rfl ?_
            exact fin 4 _ _ (by decide) (akN_4 g0 g1 g2 g3 g4) s65 (MX.tr_ (MX.tr_ (MX.tr_ (MX.tr_ c5 c20) c35) c50) c65)
        · have g3 : wAt U (.inr (0, 0)) = kw 35 := of_decide_eq_true (rt_of h53)
          refine Ev_const rfl ?_
          refine Ev_goto rfl ?_
          exact fin 3 _ _ (by decide) (akN_3 g0 g1 g2 g3) s50 (MX.tr_ (MX.tr_ (MX.tr_ c5 c20) c35) c50)
      · have g2 : wAt U (.inr (0, 0)) = kw 34 := of_decide_eq_true (rt_of h38)
        refine Ev_const rfl ?_
        refine Ev_goto rfl ?_
        exact fin 2 _ _ (by decide) (akN_2 g0 g1 g2) s35 (MX.tr_ (MX.tr_ c5 c20) c35)
    · have g1 : wAt U (.inr (0, 0)) = kw 33 := of_decide_eq_true (rt_of h23)
      refine Ev_const rfl ?_
      refine Ev_goto rfl ?_
      exact fin 1 _ _ (by decide) (akN_1 g0 g1) s20 (MX.tr_ c5 c20)
  · have g0 : wAt U (.inr (0, 0)) = kw 32 := of_decide_eq_true (rt_of h8)
    refine Ev_const rfl ?_
    refine Ev_goto rfl ?_
    exact fin 0 _ _ (by decide) (akN_0  g0) s5 (c5)
end S88zzn
