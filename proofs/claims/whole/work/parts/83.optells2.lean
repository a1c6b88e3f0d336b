/-! The call tells, done. -/
theorem tlO_n0 {L : Nat} {G : Nat → Nat → Nat → Nat} : ∀ k, tlO L G 0 k = (11, 0, 0) := by
  intro k
  induction k with
  | zero => rfl
  | succ k ih => exact ih
section S83
variable {l : Launch} {X : Cx} {ρ : Rf}
theorem d_tells {A : Ab} {q b y : Nat} {σ : St} (hA : WfA A) (hC : RC q ρ σ A) (hρ : RF ρ) (hb : b < nb (aB A)) (hy : y < 3) : T l X 100 130 [.ref 0, .int (nI b), .int (nI y)] 402 402 ρ σ (fun v ρ' σ' => v = some (.int (tlV (wtS (aB A) (aN A).2.2.1 (aN A).2.1 (aN A).1 b (aF A).1 (aF A).2) (ni (aB A)) (most60 (aN A).1 30) y (fun w k i => advB (aB A) (aN A).2.2.1 b w (aN A).1 k ((aN A).2.1 b) i))) ∧ RF ρ' ∧ upM σ σ' ∧ ∃ q', RC q' ρ' σ' A) := by
  have hW := hA.1.1
  have hWt := hA.1.2.1
  have hWf := hA.1.2.2.1
  have n8 := hW.1
  have n6 := hW.2.1
  have nh := hA.2.1.1
  have hSw := hA.2.1.2.1
  have hPw := hA.2.1.2.2.1
  have hCS : CStr σ (aN A).2.1 := fun b hb i hi => rf_str hC hb hi
  have hhr := hC.2.2.2.1.1
  have ha : hasF (nb (aB A)) (nI b) = true := hasF_nI hb (by omega)
  have hLt : wtS (aB A) (aN A).2.2.1 (aN A).2.1 (aN A).1 b (aF A).1 (aF A).2 < 1024 := kset_lt 10 _
  refine T_of rfl ?_
  refine Ev_aload rfl rfl rfl ?_
  refine Ev_iload rfl rfl ?_
  refine Ev_callV rfl rfl rfl rfl rfl (same_n 402) ((t_hasX _ _ hC.1.1 hC.2.1 hW).2) ?_
  rintro v2 ρ2 σ2 ⟨rfl, e2, g2⟩
  obtain rfl := e2.symm
  obtain rfl := g2.symm
  refine Ev_if_eq rfl (fun h5 => absurd h5 (by rw [ha]; decide)) (fun h5 => ?_)
  refine Ev_iload rfl rfl ?_
  refine Ev_if_lt rfl (fun h9 => absurd h9 (nI_nlt (a := y) (b := 0) (Nat.zero_le _) (by omega))) (fun h9 => ?_)
  refine Ev_iload rfl rfl ?_
  refine Ev_const rfl ?_
  refine Ev_icmp_le rfl (fun h14 => ?_) (fun h14 => absurd (nI_le (b := 2) (by omega) (by decide)) h14)
  refine Ev_aload rfl rfl rfl ?_
  refine Ev_getR rfl (by first | rfl | assumption) (hρ _ _ _ rfl) ?_
  refine Ev_iload rfl rfl ?_
  refine Ev_callV rfl rfl rfl rfl rfl (same_n 402) (t_witsLeft _ (S := (aN A).2.1) (P := (aN A).2.2.1) (F := (aF A).2) (h := (aN A).1) (r := (aF A).1) ⟨hC.2.1, hC.2.2.2.1.2.2.1, hCS, hC.2.2.2.1.1, hC.2.2.2.2.2.1.1, hC.2.2.2.2.2.1.2⟩ hW hWt hWf hPw hSw nh hA.2.2.2.1.1 hA.2.2.2.1.2 hb) ?_
  rintro v24 ρ24 σ24 ⟨rfl, e24, s24⟩
  obtain rfl := e24.symm
  have sX : CF cX σ σ24 := s24.wk (fun _ _ h => cR_X h)
  have hC2 := hC.cx sX
  generalize hLe : wtS (aB A) (aN A).2.2.1 (aN A).2.1 (aN A).1 b (aF A).1 (aF A).2 = L at *
  refine Ev_istore rfl ?_
  refine Ev_iload rfl rfl ?_
  refine Ev_if_eq rfl (fun h29 => ?_) (fun h29 => ?_)
  · refine Ev_const rfl ?_
    exact Ev_ireturn rfl rfl rfl rfl ⟨by unfold tlV; rw [if_pos (Or.inl ((nI_eq (b := 0) (by omega) (by decide)).mp h29))], hC.pure sX⟩
  · refine Ev_aload rfl rfl rfl ?_
    refine Ev_getR rfl (by first | rfl | assumption) hC.1.1 ?_
    refine Ev_getI rfl (by rcases hC.2.1.2.1 with rfl | rfl <;> rfl) ?_
    refine Ev_norm hC2.2.1.2.2.2.1.1 ?_
    refine Ev_if_eq rfl (fun h39 => ?_) (fun h39 => ?_)
    · refine Ev_const rfl ?_
      exact Ev_ireturn rfl rfl rfl rfl ⟨by unfold tlV; rw [if_pos (Or.inr (Or.inl ((nI_eq (b := 0) (by omega) (by decide)).mp h39)))], hC.pure sX⟩
    · refine Ev_aload rfl rfl rfl ?_
      refine Ev_getR rfl (by first | rfl | assumption) (hρ _ _ _ rfl) ?_
      refine Ev_getI rfl (by first | rfl | assumption) ?_
      refine Ev_norm hC2.2.2.2.1.1 ?_
      refine Ev_const rfl ?_
      refine Ev_icmp_lt rfl (fun h52 => ?_) (fun h52 => ?_)
      · refine Ev_aload rfl rfl rfl ?_
        refine Ev_getR rfl (by first | rfl | assumption) (hρ _ _ _ rfl) ?_
        refine Ev_iload rfl rfl ?_
        refine Ev_iload rfl rfl ?_
        refine Ev_callV rfl rfl rfl rfl rfl (same_n 402) (t_findTelling _ (S := (aN A).2.1) (P := (aN A).2.2.1) (h := (aN A).1) hW hWt hWf hPw hSw hb hLt nh ⟨hC2.2.1, hC2.2.2.2.1.2.2.1, fun b hb i hi => rf_str hC2 hb hi, hC2.2.2.2.1.1⟩) ?_
        rintro v63 ρ63 σ63 ⟨rfl, e63, s63, t63⟩
        obtain rfl := e63.symm
        have z1 : ¬ L = 0 := fun z => h29 (by rw [z]; rfl)
        have z2 : ¬ ni (aB A) = 0 := fun z => h39 (by rw [z]; rfl)
        have z3 : 0 < most60 (aN A).1 30 := by have := (nI_ltI (a := (aN A).1) (b := 999) (by omega) (by decide)).mp h52; unfold most60; split <;> omega
        have z4 := tlO_10 (L := L) (G := fun w k i => advB (aB A) (aN A).2.2.1 b w (aN A).1 k ((aN A).2.1 b) i) z3 (Nat.pos_of_ne_zero z2)
        have z5 := t63.2.resolve_left (by omega)
        have z6 : tlV L (ni (aB A)) (most60 (aN A).1 30) y (fun w k i => advB (aB A) (aN A).2.2.1 b w (aN A).1 k ((aN A).2.1 b) i) = nI (tlA y (tlO L (fun w k i => advB (aB A) (aN A).2.2.1 b w (aN A).1 k ((aN A).2.1 b) i) (ni (aB A)) (most60 (aN A).1 30))) := if_neg (fun z => by omega)
        rw [z6]
        refine Ev_iload rfl rfl ?_
        refine Ev_look rfl rfl (swP_c (fun h67_0 => ?_) (fun g67_0 => swP_c (fun h67_1 => ?_) (fun g67_1 => swP_n ?_)))
        · refine Ev_aload rfl rfl rfl ?_
          refine Ev_getR rfl (by first | rfl | assumption) (hρ _ _ _ rfl) ?_
          refine Ev_getI rfl (by first | rfl | assumption) ?_
          refine Ev_norm z5.1 ?_
          exact Ev_ireturn rfl rfl rfl rfl ⟨by unfold tlA; rw [if_pos (by have := h67_0; rw [nI_toInt (by omega)] at this; omega)], hC.pure (sX.tr s63)⟩
        · refine Ev_aload rfl rfl rfl ?_
          refine Ev_getR rfl (by first | rfl | assumption) (hρ _ _ _ rfl) ?_
          refine Ev_getI rfl (by first | rfl | assumption) ?_
          refine Ev_norm z5.2 ?_
          exact Ev_ireturn rfl rfl rfl rfl ⟨by unfold tlA; rw [if_neg (by have := g67_0; rw [nI_toInt (by omega)] at this; omega), if_pos (by have := h67_1; rw [nI_toInt (by omega)] at this; omega)], hC.pure (sX.tr s63)⟩
        · refine Ev_aload rfl rfl rfl ?_
          refine Ev_getR rfl (by first | rfl | assumption) (hρ _ _ _ rfl) ?_
          refine Ev_getI rfl (by first | rfl | assumption) ?_
          refine Ev_norm t63.1 ?_
          exact Ev_ireturn rfl rfl rfl rfl ⟨by unfold tlA; rw [if_neg (by have := g67_0; rw [nI_toInt (by omega)] at this; omega), if_neg (by have := g67_1; rw [nI_toInt (by omega)] at this; omega)], hC.pure (sX.tr s63)⟩
      · refine Ev_const rfl ?_
        exact Ev_ireturn rfl rfl rfl rfl ⟨by unfold tlV; rw [if_pos (Or.inr (Or.inr (by have := mt (fun z => (nI_ltI (a := (aN A).1) (b := 999) (by omega) (by decide)).mpr z) h52; unfold most60; split <;> omega)))], hC.pure sX⟩
theorem m_tells {A : Ab} {b y : Nat} {σ : St} (hA : WfA A) (hM : RM ρ σ A) (hb : b < nb (aB A)) (hy : y < 3) : T l X 100 251 [.ref 326, .int (nI b), .int (nI y)] 402 402 ρ σ (fun v ρ' σ' => v = some (.int (tlV (wtS (aB A) (aN A).2.2.1 (aN A).2.1 (aN A).1 b (aF A).1 (aF A).2) (ni (aB A)) (most60 (aN A).1 30) y (fun w k i => advB (aB A) (aN A).2.2.1 b w (aN A).1 k ((aN A).2.1 b) i))) ∧ ρ' = ρ ∧ upC σ σ' ∧ RM ρ' σ' A) := by
  have hW := hA.1.1
  have hWt := hA.1.2.1
  have hWf := hA.1.2.2.1
  have n8 := hW.1
  have n6 := hW.2.1
  have nh := hA.2.1.1
  have hSw := hA.2.1.2.1
  have hPw := hA.2.1.2.2.1
  have ha : hasF (nb (aB A)) (nI b) = true := hasF_nI hb (by omega)
  have hLt : wtS (aB A) (aN A).2.2.1 (aN A).2.1 (aN A).1 b (aF A).1 (aF A).2 < 1024 := kset_lt 10 _
  have hρ := hM.1
  refine T_of rfl ?_
  refine Ev_aload rfl rfl rfl ?_
  refine Ev_iload rfl rfl ?_
  refine Ev_callV rfl rfl rfl rfl rfl (same_n 402) (m_isBather _ hρ hM.2.1.1 hW _) ?_
  rintro v2 ρ2 σ2 ⟨rfl, e2, g2⟩
  obtain rfl := e2.symm
  obtain rfl := g2.symm
  refine Ev_if_eq rfl (fun h5 => absurd h5 (by rw [← hasF_eq, ha]; decide)) (fun h5 => ?_)
  refine Ev_iload rfl rfl ?_
  refine Ev_i2l rfl ?_
  refine Ev_constL rfl ?_
  refine Ev_constL rfl ?_
  refine Ev_callS rfl rfl rfl rfl (same_n 402) (m_isIn _ _ _ _) ?_
  rintro v14 ρ14 σ14 ⟨rfl, e14, g14⟩
  obtain rfl := e14.symm
  obtain rfl := g14.symm
  refine Ev_if_ne rfl (fun h17 => ?_) (fun h17 => absurd (by rw [isIn_lit (n := 3) rfl, hasF_nI hy (by decide)]; decide) h17)
  refine Ev_aload rfl rfl rfl ?_
  refine Ev_iload rfl rfl ?_
  refine Ev_callV rfl rfl rfl rfl rfl (same_n 402) (m_witsSet _ hM hA hb) ?_
  rintro v24 ρ24 σ24 ⟨rfl, e24, f24, w24⟩
  obtain rfl := e24.symm
  generalize hLe : wtS (aB A) (aN A).2.2.1 (aN A).2.1 (aN A).1 b (aF A).1 (aF A).2 = L at *
  refine Ev_istore rfl ?_
  refine Ev_const rfl ?_
  refine Ev_istore rfl ?_
  refine Ev_const rfl ?_
  refine Ev_istore rfl ?_
  refine Ev_const rfl ?_
  refine Ev_istore rfl ?_
  refine Ev_const rfl ?_
  refine Ev_istore rfl ?_
  have hM2 := hM.mx f24
  by_cases hL0 : L = 0
  · subst hL0
    have ev : tlV 0 (ni (aB A)) (most60 (aN A).1 30) y (fun w k i => advB (aB A) (aN A).2.2.1 b w (aN A).1 k ((aN A).2.1 b) i) = -1 := if_pos (Or.inl rfl)
    rw [ev]
    refine Ev_iload rfl rfl ?_
    refine Ev_if_eq rfl (fun h41 => ?_) (fun h41 => absurd rfl h41)
    refine Ev_iload rfl rfl ?_
    refine Ev_const rfl ?_
    refine Ev_icmp_ne rfl (fun h126 => absurd rfl h126) (fun h126 => ?_)
    refine Ev_const rfl ?_
    refine Ev_goto rfl ?_
    exact Ev_ireturn rfl rfl rfl rfl ⟨rfl, rfl, hM.pure f24⟩
  · have key := mt_out (l := l) (X := X) (d := 91) (c := y) (h := (aN A).1) hρ hM2.2.1.1 hM2.2.2.2.1.1 nh hW hPw hSw hLt hL0 hy w24 f24 (most60 (aN A).1 30) 0 (.float 0) (.float 0) (by omega)
    have e : (tlO L (fun w k i => advB (aB A) (aN A).2.2.1 b w (aN A).1 k ((aN A).2.1 b) i) (ni (aB A)) 0).1 = 11 := rfl
    rw [if_pos e, if_pos e, if_pos e, show nI (0 + 1) = (1 : Int32) from rfl] at key
    have e100 : 91 + 9 = 100 := rfl
    rw [e100] at key
    change Ev l X 100 251 40 [.ref 326, .int (nI b), .int (nI y), .int (nI L), .int (-1), .int (-1), .int 0, .int 1, .float 0, .float 0] [] 402 402 402 ρ σ24 _
    refine Ev.mono key (fun v ρ' σ' hq => ?_)
    obtain ⟨rfl, rfl, hf⟩ := hq
    refine ⟨?_, rfl, hM.pure hf⟩
    unfold tlV
    by_cases hN : most60 (aN A).1 30 = 0
    · rw [if_pos (Or.inr (Or.inr hN)), hN, if_pos e]
    · by_cases hn : ni (aB A) = 0
      · rw [if_pos (Or.inr (Or.inl hn)), hn, tlO_n0, if_pos (show ((11 : Nat), (0 : Nat), (0 : Nat)).1 = 11 from rfl)]
      · have z4 := tlO_10 (L := L) (G := fun w k i => advB (aB A) (aN A).2.2.1 b w (aN A).1 k ((aN A).2.1 b) i) (Nat.pos_of_ne_zero hN) (Nat.pos_of_ne_zero hn)
        rw [if_neg (by omega), if_neg (by omega)]
theorem op_tells (a c : Int32) : OpI l X InvA 130 251 [.int a, .int c] := by
  refine op_of (fun A q ρ σ hA hC hρ => ?_)
  have hW := hA.1.1
  have n8 := hW.1
  have n6 := hW.2.1
  by_cases h : (hasF (nb (aB A)) a && hasF 3 c) = true
  · obtain ⟨ha, hc⟩ := Bool.and_eq_true_iff.mp h
    obtain ⟨b, hb, rfl⟩ := hasF_of ha
    obtain ⟨y, hy, rfl⟩ := hasF_of hc
    exact ⟨_, A, hA, d_tells hA hC hρ hb hy, fun ρ σ hM => m_tells hA hM hb hy⟩
  · refine ⟨-1, A, hA, ?_, fun ρ σ hM => ?_⟩
    · refine T_of rfl ?_
      refine Ev_aload rfl rfl rfl ?_
      refine Ev_iload rfl rfl ?_
      refine Ev_callV rfl rfl rfl rfl rfl (same_n 402) ((t_hasX _ _ hC.1.1 hC.2.1 hW).2) ?_
      rintro v2 ρ2 σ2 ⟨rfl, e2, g2⟩
      obtain rfl := e2.symm
      obtain rfl := g2.symm
      refine Ev_if_eq rfl (fun h5 => ?_) (fun h5 => ?_)
      · refine Ev_const rfl ?_
        exact Ev_ireturn rfl rfl rfl rfl ⟨rfl, hC.same⟩
      · refine Ev_iload rfl rfl ?_
        refine Ev_if_lt rfl (fun h9 => ?_) (fun h9 => ?_)
        · refine Ev_const rfl ?_
          exact Ev_ireturn rfl rfl rfl rfl ⟨rfl, hC.same⟩
        · refine Ev_iload rfl rfl ?_
          refine Ev_const rfl ?_
          refine Ev_icmp_le rfl (fun h14 => absurd (Bool.and_eq_true_iff.mpr ⟨rt_of h5, decide_eq_true ⟨by have := mt Int32.lt_iff_toInt_lt.mpr h9; rw [Int32.toInt_zero] at this; omega, by have := Int32.le_iff_toInt_le.mp h14; have e2 : (2 : Int32).toInt = 2 := rfl; omega⟩⟩) h) (fun h14 => ?_)
          refine Ev_const rfl ?_
          exact Ev_ireturn rfl rfl rfl rfl ⟨rfl, hC.same⟩
    · have hρ := hM.1
      refine T_of rfl ?_
      refine Ev_aload rfl rfl rfl ?_
      refine Ev_iload rfl rfl ?_
      refine Ev_callV rfl rfl rfl rfl rfl (same_n 402) (m_isBather _ hρ hM.2.1.1 hW _) ?_
      rintro v2 ρ2 σ2 ⟨rfl, e2, g2⟩
      obtain rfl := e2.symm
      obtain rfl := g2.symm
      refine Ev_if_eq rfl (fun h5 => ?_) (fun h5 => ?_)
      · refine Ev_const rfl ?_
        exact Ev_ireturn rfl rfl rfl rfl ⟨rfl, rfl, hM.same⟩
      · refine Ev_iload rfl rfl ?_
        refine Ev_i2l rfl ?_
        refine Ev_constL rfl ?_
        refine Ev_constL rfl ?_
        refine Ev_callS rfl rfl rfl rfl (same_n 402) (m_isIn _ _ _ _) ?_
        rintro v14 ρ14 σ14 ⟨rfl, e14, g14⟩
        obtain rfl := e14.symm
        obtain rfl := g14.symm
        refine Ev_if_ne rfl (fun h17 => absurd (Bool.and_eq_true_iff.mpr ⟨by have := rt_of h5; rwa [← hasF_eq] at this, by have := rt_of h17; rwa [isIn_lit (n := 3) rfl] at this⟩) h) (fun h17 => ?_)
        refine Ev_const rfl ?_
        exact Ev_ireturn rfl rfl rfl rfl ⟨rfl, rfl, hM.same⟩
end S83
