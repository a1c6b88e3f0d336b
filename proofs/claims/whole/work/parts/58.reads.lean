/-! The plan, what is kept, keeps, the tide: read. -/
section S58
variable {l : Launch} {X : Cx}
theorem hasF_eq {n : Nat} {x : Int32} : hasF n x = decide (0 ≤ x.toInt ∧ x.toInt < (n : Int)) := rfl
theorem isIn_lit {x : Int32} {n : Nat} {a : Int64} (ha : a.toInt = (n : Int) - 1) : decide ((0 : Int64) ≤ x.toInt64 ∧ x.toInt64 ≤ a) = hasF n x := by
  apply decide_eq_decide.mpr
  rw [Int64.le_iff_toInt_le, Int64.le_iff_toInt_le, l_of, ha]
  have : (0 : Int64).toInt = 0 := rfl
  omega
theorem op_plan (k b : Int32) : OpI l X InvA 117 228 [.int k, .int b] := by
  refine op_of (fun A q ρ σ hA hC hρ => ?_)
  have hW := hA.1.1
  have n16 := hW.2.2.2.1
  have hcp := hC.2.2.2.1.2.2.1
  by_cases h : (hasF (np (aB A)) k && hasF 2 b) = true
  · obtain ⟨hk, hb⟩ := Bool.and_eq_true_iff.mp h
    obtain ⟨z, hz, rfl⟩ := hasF_of hk
    obtain ⟨w, hw, rfl⟩ := hasF_of hb
    have c1 := (hcp.2 z hz).1
    have c2 := (hcp.2 z hz).2
    refine ⟨nI ((aN A).2.2.1 (2 * z + w)), A, hA, ?_, fun ρ σ hM => ?_⟩
    · refine T_of rfl ?_
      refine Ev_iload rfl rfl ?_
      refine Ev_if_lt rfl (fun h1 => absurd h1 (nI_pos (by omega))) (fun h1 => ?_)
      refine Ev_iload rfl rfl ?_
      refine Ev_aload rfl rfl rfl ?_
      refine Ev_getR rfl (by first | rfl | assumption) (hρ _ _ _ rfl) ?_
      refine Ev_getI rfl (by first | rfl | assumption) ?_
      refine Ev_norm hcp.1 ?_
      refine Ev_icmp_lt rfl (fun h12 => ?_) (fun h12 => absurd (nI_lt hz (by omega)) h12)
      refine Ev_iload rfl rfl ?_
      refine Ev_look rfl rfl (swP_c (fun h18_0 => ?_) (fun g18_0 => swP_c (fun h18_1 => ?_) (fun g18_1 => swP_n ?_)))
      · refine Ev_aload rfl rfl rfl ?_
        refine Ev_getR rfl (by first | rfl | assumption) (hρ _ _ _ rfl) ?_
        refine Ev_getR rfl (by first | rfl | assumption) (hρ _ _ _ rfl) ?_
        refine Ev_iload rfl rfl ?_
        refine Ev_iald rfl (by first | rfl | assumption) (vp_in_nI (n := z) (show z < 16 by omega) (by decide)) ?_
        refine Ev_norm (by rw [nI_clamp (by omega)]; exact c1 : _ = nI ((aN A).2.2.1 (2 * z))) ?_
        exact Ev_ireturn rfl rfl rfl rfl ⟨by rw [nI_toInt (by omega)] at h18_0; rw [show w = 0 by omega]; rfl, hC.same⟩
      · refine Ev_aload rfl rfl rfl ?_
        refine Ev_getR rfl (by first | rfl | assumption) (hρ _ _ _ rfl) ?_
        refine Ev_getR rfl (by first | rfl | assumption) (hρ _ _ _ rfl) ?_
        refine Ev_iload rfl rfl ?_
        refine Ev_iald rfl (by first | rfl | assumption) (vp_in_nI (n := z) (show z < 16 by omega) (by decide)) ?_
        refine Ev_norm (by rw [nI_clamp (by omega)]; exact c2 : _ = nI ((aN A).2.2.1 (2 * z + 1))) ?_
        exact Ev_ireturn rfl rfl rfl rfl ⟨by rw [nI_toInt (by omega)] at h18_1; rw [show w = 1 by omega], hC.same⟩
      · exfalso
        rw [nI_toInt (by omega)] at g18_0 g18_1
        omega
    · have hρ := hM.1
      have hmp := RM.pl hM
      refine T_of rfl ?_
      refine Ev_iload rfl rfl ?_
      refine Ev_i2l rfl ?_
      refine Ev_constL rfl ?_
      refine Ev_aload rfl rfl rfl ?_
      refine Ev_callV rfl rfl rfl rfl rfl (same_n 402) (m_planMany _ hρ hM.2.1.1) ?_
      rintro v4 ρ4 σ4 ⟨rfl, e4, g4⟩
      obtain rfl := e4.symm
      obtain rfl := g4.symm
      refine Ev_const rfl ?_
      refine Ev_isub rfl ?_
      refine Ev_i2l rfl ?_
      refine Ev_callS rfl rfl rfl rfl (same_n 402) (m_isIn _ _ _ _) ?_
      rintro v10 ρ10 σ10 ⟨rfl, e10, g10⟩
      obtain rfl := e10.symm
      obtain rfl := g10.symm
      refine Ev_if_eq rfl (fun h13 => absurd h13 (by rw [isIn_n (by omega), l_of, ← hasF_eq, hk]; decide)) (fun h13 => ?_)
      refine Ev_iload rfl rfl ?_
      refine Ev_i2l rfl ?_
      refine Ev_constL rfl ?_
      refine Ev_constL rfl ?_
      refine Ev_callS rfl rfl rfl rfl (same_n 402) (m_isIn _ _ _ _) ?_
      rintro v20 ρ20 σ20 ⟨rfl, e20, g20⟩
      obtain rfl := e20.symm
      obtain rfl := g20.symm
      refine Ev_if_eq rfl (fun h23 => absurd h23 (by rw [isIn_lit (n := 2) rfl, hb]; decide)) (fun h23 => ?_)
      refine Ev_aload rfl rfl rfl ?_
      refine Ev_getR rfl (by first | rfl | assumption) (hρ _ _ _ rfl) ?_
      refine Ev_const rfl ?_
      refine Ev_const rfl ?_
      refine Ev_iload rfl rfl ?_
      refine Ev_imul rfl ?_
      refine Ev_norm (pk_mul 2 z) ?_
      refine Ev_iadd rfl ?_
      refine Ev_norm (nI_add 49 (2 * z)) ?_
      refine Ev_iload rfl rfl ?_
      refine Ev_iadd rfl ?_
      refine Ev_norm (nI_add (49 + 2 * z) w) ?_
      refine Ev_iald rfl (by first | rfl | assumption) (vp_in_nI (n := 49 + 2 * z + w) (show 49 + 2 * z + w < 242 by omega) (by decide)) ?_
      refine Ev_norm (by rw [nI_clamp (by omega), Nat.add_assoc]; exact hmp (2 * z + w) (by omega) : _ = nI ((aN A).2.2.1 (2 * z + w))) ?_
      refine Ev_goto rfl ?_
      exact Ev_ireturn rfl rfl rfl rfl ⟨rfl, rfl, hM.same⟩
  · refine ⟨-1, A, hA, ?_, fun ρ σ hM => ?_⟩
    · refine T_of rfl ?_
      refine Ev_iload rfl rfl ?_
      refine Ev_if_lt rfl (fun h1 => ?_) (fun h1 => ?_)
      · refine Ev_const rfl ?_
        exact Ev_ireturn rfl rfl rfl rfl ⟨rfl, hC.same⟩
      · refine Ev_iload rfl rfl ?_
        refine Ev_aload rfl rfl rfl ?_
        refine Ev_getR rfl (by first | rfl | assumption) (hρ _ _ _ rfl) ?_
        refine Ev_getI rfl (by first | rfl | assumption) ?_
        refine Ev_norm hcp.1 ?_
        refine Ev_icmp_lt rfl (fun h12 => ?_) (fun h12 => ?_)
        · have hk : hasF (np (aB A)) k = true := decide_eq_true (by
            rw [Int32.lt_iff_toInt_lt] at h1
            rw [Int32.lt_iff_toInt_lt, nI_toInt (by omega)] at h12
            have e0 : (0 : Int32).toInt = 0 := rfl
            omega)
          refine Ev_iload rfl rfl ?_
          refine Ev_look rfl rfl (swP_c (fun h18_0 => ?_) (fun g18_0 => swP_c (fun h18_1 => ?_) (fun g18_1 => swP_n ?_)))
          · exact absurd (by rw [hk]; exact decide_eq_true (by omega)) h
          · exact absurd (by rw [hk]; exact decide_eq_true (by omega)) h
          · refine Ev_const rfl ?_
            exact Ev_ireturn rfl rfl rfl rfl ⟨rfl, hC.same⟩
        · refine Ev_const rfl ?_
          exact Ev_ireturn rfl rfl rfl rfl ⟨rfl, hC.same⟩
    · have hρ := hM.1
      refine T_of rfl ?_
      refine Ev_iload rfl rfl ?_
      refine Ev_i2l rfl ?_
      refine Ev_constL rfl ?_
      refine Ev_aload rfl rfl rfl ?_
      refine Ev_callV rfl rfl rfl rfl rfl (same_n 402) (m_planMany _ hρ hM.2.1.1) ?_
      rintro v4 ρ4 σ4 ⟨rfl, e4, g4⟩
      obtain rfl := e4.symm
      obtain rfl := g4.symm
      refine Ev_const rfl ?_
      refine Ev_isub rfl ?_
      refine Ev_i2l rfl ?_
      refine Ev_callS rfl rfl rfl rfl (same_n 402) (m_isIn _ _ _ _) ?_
      rintro v10 ρ10 σ10 ⟨rfl, e10, g10⟩
      obtain rfl := e10.symm
      obtain rfl := g10.symm
      refine Ev_if_eq rfl (fun h13 => ?_) (fun h13 => ?_)
      · refine Ev_const rfl ?_
        exact Ev_ireturn rfl rfl rfl rfl ⟨rfl, rfl, hM.same⟩
      · refine Ev_iload rfl rfl ?_
        refine Ev_i2l rfl ?_
        refine Ev_constL rfl ?_
        refine Ev_constL rfl ?_
        refine Ev_callS rfl rfl rfl rfl (same_n 402) (m_isIn _ _ _ _) ?_
        rintro v20 ρ20 σ20 ⟨rfl, e20, g20⟩
        obtain rfl := e20.symm
        obtain rfl := g20.symm
        refine Ev_if_eq rfl (fun h23 => ?_) (fun h23 => absurd (Bool.and_eq_true_iff.mpr ⟨by have := rt_of h13; rwa [isIn_n (by omega), l_of] at this, by have := rt_of h23; rwa [isIn_lit (n := 2) rfl] at this⟩) h)
        refine Ev_const rfl ?_
        exact Ev_ireturn rfl rfl rfl rfl ⟨rfl, rfl, hM.same⟩
theorem op_kept (k b : Int32) : OpI l X InvA 118 229 [.int k, .int b] := by
  refine op_of (fun A q ρ σ hA hC hρ => ?_)
  have hck := hC.2.2.2.1.2.2.2
  have n40 := hck.2.1
  have e0 : (0 : Int32).toInt = 0 := rfl
  have e4 : (4 : Int32).toInt = 4 := rfl
  by_cases h : (hasF (aN A).2.2.2.1 k && hasF 4 b) = true
  · obtain ⟨hk, hb⟩ := Bool.and_eq_true_iff.mp h
    obtain ⟨z, hz, rfl⟩ := hasF_of hk
    obtain ⟨w, hw, rfl⟩ := hasF_of hb
    refine ⟨nI ((aN A).2.2.2.2 (4 * z + w)), A, hA, ?_, fun ρ σ hM => ?_⟩
    · refine T_of rfl ?_
      refine Ev_iload rfl rfl ?_
      refine Ev_if_lt rfl (fun h1 => absurd h1 (nI_pos (by omega))) (fun h1 => ?_)
      refine Ev_iload rfl rfl ?_
      refine Ev_aload rfl rfl rfl ?_
      refine Ev_getR rfl (by first | rfl | assumption) (hρ _ _ _ rfl) ?_
      refine Ev_getI rfl (by first | rfl | assumption) ?_
      refine Ev_norm hck.1 ?_
      refine Ev_icmp_ge rfl (fun h12 => absurd h12 (nI_ge hz (by omega))) (fun h12 => ?_)
      refine Ev_iload rfl rfl ?_
      refine Ev_if_lt rfl (fun h16 => absurd h16 (nI_pos (by omega))) (fun h16 => ?_)
      refine Ev_iload rfl rfl ?_
      refine Ev_const rfl ?_
      refine Ev_icmp_lt rfl (fun h21 => ?_) (fun h21 => absurd (nI_lt hw (by omega)) h21)
      refine Ev_aload rfl rfl rfl ?_
      refine Ev_getR rfl (by first | rfl | assumption) (hρ _ _ _ rfl) ?_
      refine Ev_getR rfl (by first | rfl | assumption) (hρ _ _ _ rfl) ?_
      refine Ev_const rfl ?_
      refine Ev_iload rfl rfl ?_
      refine Ev_imul rfl ?_
      refine Ev_norm (pk_mul 4 z) ?_
      refine Ev_iload rfl rfl ?_
      refine Ev_iadd rfl ?_
      refine Ev_norm (nI_add (4 * z) w) ?_
      refine Ev_iald rfl (by first | rfl | assumption) (vp_in_nI (n := 4 * z + w) (show 4 * z + w < 160 by omega) (by decide)) ?_
      refine Ev_norm (by rw [nI_clamp (by omega)]; have := hck.2.2 (4 * z + w) (by omega); rwa [Nat.zero_add] at this : _ = nI ((aN A).2.2.2.2 (4 * z + w))) ?_
      exact Ev_ireturn rfl rfl rfl rfl ⟨rfl, hC.same⟩
    · have hρ := hM.1
      have hmk := hM.2.2.2.1.2.2.2
      refine T_of rfl ?_
      refine Ev_iload rfl rfl ?_
      refine Ev_i2l rfl ?_
      refine Ev_constL rfl ?_
      refine Ev_aload rfl rfl rfl ?_
      refine Ev_getR rfl (by first | rfl | assumption) (hρ _ _ _ rfl) ?_
      refine Ev_const rfl ?_
      refine Ev_iald rfl (by first | rfl | assumption) (vp_in_nI (n := 81) (by decide) (by decide)) ?_
      refine Ev_norm hmk.1 ?_
      refine Ev_const rfl ?_
      refine Ev_isub rfl ?_
      refine Ev_i2l rfl ?_
      refine Ev_callS rfl rfl rfl rfl (same_n 402) (m_isIn _ _ _ _) ?_
      rintro v13 ρ13 σ13 ⟨rfl, e13, g13⟩
      obtain rfl := e13.symm
      obtain rfl := g13.symm
      refine Ev_if_eq rfl (fun h16 => absurd h16 (by rw [isIn_n (by omega), l_of, ← hasF_eq, hk]; decide)) (fun h16 => ?_)
      refine Ev_iload rfl rfl ?_
      refine Ev_i2l rfl ?_
      refine Ev_constL rfl ?_
      refine Ev_constL rfl ?_
      refine Ev_callS rfl rfl rfl rfl (same_n 402) (m_isIn _ _ _ _) ?_
      rintro v25 ρ25 σ25 ⟨rfl, e25, g25⟩
      obtain rfl := e25.symm
      obtain rfl := g25.symm
      refine Ev_if_eq rfl (fun h28 => absurd h28 (by rw [isIn_lit (n := 4) rfl, hb]; decide)) (fun h28 => ?_)
      refine Ev_aload rfl rfl rfl ?_
      refine Ev_getR rfl (by first | rfl | assumption) (hρ _ _ _ rfl) ?_
      refine Ev_const rfl ?_
      refine Ev_const rfl ?_
      refine Ev_iload rfl rfl ?_
      refine Ev_imul rfl ?_
      refine Ev_norm (pk_mul 4 z) ?_
      refine Ev_iadd rfl ?_
      refine Ev_norm (nI_add 82 (4 * z)) ?_
      refine Ev_iload rfl rfl ?_
      refine Ev_iadd rfl ?_
      refine Ev_norm (nI_add (82 + 4 * z) w) ?_
      refine Ev_iald rfl (by first | rfl | assumption) (vp_in_nI (n := 82 + 4 * z + w) (show 82 + 4 * z + w < 242 by omega) (by decide)) ?_
      refine Ev_norm (by rw [nI_clamp (by omega), Nat.add_assoc]; exact hmk.2 (4 * z + w) (by omega) : _ = nI ((aN A).2.2.2.2 (4 * z + w))) ?_
      refine Ev_goto rfl ?_
      exact Ev_ireturn rfl rfl rfl rfl ⟨rfl, rfl, hM.same⟩
  · refine ⟨-1, A, hA, ?_, fun ρ σ hM => ?_⟩
    · refine T_of rfl ?_
      refine Ev_iload rfl rfl ?_
      refine Ev_if_lt rfl (fun h1 => ?_) (fun h1 => ?_)
      · refine Ev_const rfl ?_
        exact Ev_ireturn rfl rfl rfl rfl ⟨rfl, hC.same⟩
      · refine Ev_iload rfl rfl ?_
        refine Ev_aload rfl rfl rfl ?_
        refine Ev_getR rfl (by first | rfl | assumption) (hρ _ _ _ rfl) ?_
        refine Ev_getI rfl (by first | rfl | assumption) ?_
        refine Ev_norm hck.1 ?_
        refine Ev_icmp_ge rfl (fun h12 => ?_) (fun h12 => ?_)
        · refine Ev_const rfl ?_
          exact Ev_ireturn rfl rfl rfl rfl ⟨rfl, hC.same⟩
        · refine Ev_iload rfl rfl ?_
          refine Ev_if_lt rfl (fun h16 => ?_) (fun h16 => ?_)
          · refine Ev_const rfl ?_
            exact Ev_ireturn rfl rfl rfl rfl ⟨rfl, hC.same⟩
          · refine Ev_iload rfl rfl ?_
            refine Ev_const rfl ?_
            refine Ev_icmp_lt rfl (fun h21 => ?_) (fun h21 => ?_)
            · rw [Int32.lt_iff_toInt_lt] at h1 h16 h21
              rw [Int32.le_iff_toInt_le, nI_toInt (by omega)] at h12
              exact absurd (Bool.and_eq_true_iff.mpr ⟨decide_eq_true (by omega), decide_eq_true (by omega)⟩) h
            · refine Ev_const rfl ?_
              exact Ev_ireturn rfl rfl rfl rfl ⟨rfl, hC.same⟩
    · have hρ := hM.1
      have hmk := hM.2.2.2.1.2.2.2
      refine T_of rfl ?_
      refine Ev_iload rfl rfl ?_
      refine Ev_i2l rfl ?_
      refine Ev_constL rfl ?_
      refine Ev_aload rfl rfl rfl ?_
      refine Ev_getR rfl (by first | rfl | assumption) (hρ _ _ _ rfl) ?_
      refine Ev_const rfl ?_
      refine Ev_iald rfl (by first | rfl | assumption) (vp_in_nI (n := 81) (by decide) (by decide)) ?_
      refine Ev_norm hmk.1 ?_
      refine Ev_const rfl ?_
      refine Ev_isub rfl ?_
      refine Ev_i2l rfl ?_
      refine Ev_callS rfl rfl rfl rfl (same_n 402) (m_isIn _ _ _ _) ?_
      rintro v13 ρ13 σ13 ⟨rfl, e13, g13⟩
      obtain rfl := e13.symm
      obtain rfl := g13.symm
      refine Ev_if_eq rfl (fun h16 => ?_) (fun h16 => ?_)
      · refine Ev_const rfl ?_
        exact Ev_ireturn rfl rfl rfl rfl ⟨rfl, rfl, hM.same⟩
      · refine Ev_iload rfl rfl ?_
        refine Ev_i2l rfl ?_
        refine Ev_constL rfl ?_
        refine Ev_constL rfl ?_
        refine Ev_callS rfl rfl rfl rfl (same_n 402) (m_isIn _ _ _ _) ?_
        rintro v25 ρ25 σ25 ⟨rfl, e25, g25⟩
        obtain rfl := e25.symm
        obtain rfl := g25.symm
        refine Ev_if_eq rfl (fun h28 => ?_) (fun h28 => absurd (Bool.and_eq_true_iff.mpr ⟨by have := rt_of h16; rwa [isIn_n (by omega), l_of] at this, by have := rt_of h28; rwa [isIn_lit (n := 4) rfl] at this⟩) h)
        refine Ev_const rfl ?_
        exact Ev_ireturn rfl rfl rfl rfl ⟨rfl, rfl, hM.same⟩
theorem op_keeps (a b : Int32) : OpI l X InvA 116 227 [.int a, .int b] := by
  refine op_of (fun A q ρ σ hA hC hρ => ?_)
  have hW := hA.1.1
  have hWt := hA.1.2.1
  have hWf := hA.1.2.2.1
  have n8 := hW.1
  have n6 := hW.2.1
  have nh : (aN A).1 ≤ 2000 := Nat.le_trans hA.2.1.1 (by decide)
  have hSw := hA.2.1.2.1
  have hle : ∀ b i, (aN A).2.1 b i ≤ 99 := fun b i => (hSw b i).1
  have hCS : CStr σ (aN A).2.1 := fun b hb i hi => rf_str hC hb hi
  by_cases h : (hasF (nb (aB A)) a && hasF (ni (aB A)) b) = true
  · obtain ⟨ha, hb⟩ := Bool.and_eq_true_iff.mp h
    obtain ⟨x, hx, rfl⟩ := hasF_of ha
    obtain ⟨y, hy, rfl⟩ := hasF_of hb
    refine ⟨nI (kpM (aB A) ((aN A).2.1 x) x (wit (aB A) x) (aN A).1 (tdM (aB A) (aN A).1) y), A, hA, ?_, fun ρ σ hM => ?_⟩
    · refine T_of rfl ?_
      refine Ev_aload rfl rfl rfl ?_
      refine Ev_iload rfl rfl ?_
      refine Ev_iload rfl rfl ?_
      refine Ev_callV rfl rfl rfl rfl rfl (same_n 402) (t_hasBoth _ _ _ hC.1.1 hC.2.1 hW) ?_
      rintro v3 ρ3 σ3 ⟨rfl, e3, g3⟩
      obtain rfl := e3.symm
      obtain rfl := g3.symm
      refine Ev_if_ne rfl (fun h6 => ?_) (fun h6 => absurd (by rw [h]; decide) h6)
      refine Ev_aload rfl rfl rfl ?_
      refine Ev_iload rfl rfl ?_
      refine Ev_callV rfl rfl rfl rfl rfl (same_n 402) (t_lookAt _ hC.1.1 hC.2.1 hW hWf hC.2.2.2.1.1 hCS hSw nh hx) ?_
      rintro v13 ρ13 σ13 ⟨rfl, e13, s13, st13⟩
      obtain rfl := e13.symm
      refine Ev_aload rfl rfl rfl ?_
      refine Ev_getR rfl (by first | rfl | assumption) (hρ _ _ _ rfl) ?_
      refine Ev_iload rfl rfl ?_
      refine Ev_callV rfl rfl rfl rfl rfl (same_n 402) (t_strengthBy _ (hC.2.1.cl s13) hW hWt hWf st13 (wf9 hA x) nh (tdM_le _ _) hx hy) ?_
      rintro v21 ρ21 σ21 ⟨rfl, e21, s21⟩
      obtain rfl := e21.symm
      exact Ev_ireturn rfl rfl rfl rfl ⟨rfl, hC.pure ((s13.wk (fun _ _ h => cL_X h)).tr (s21.wk (fun _ _ h => cA_X h)))⟩
    · have hρ := hM.1
      refine T_of rfl ?_
      refine Ev_aload rfl rfl rfl ?_
      refine Ev_iload rfl rfl ?_
      refine Ev_callV rfl rfl rfl rfl rfl (same_n 402) (m_isBather _ hρ hM.2.1.1 hW _) ?_
      rintro v2 ρ2 σ2 ⟨rfl, e2, g2⟩
      obtain rfl := e2.symm
      obtain rfl := g2.symm
      refine Ev_if_eq rfl (fun h5 => absurd h5 (by rw [show decide (0 ≤ (nI x).toInt ∧ (nI x).toInt < (nb (aB A) : Int)) = true from ha]; decide)) (fun h5 => ?_)
      refine Ev_aload rfl rfl rfl ?_
      refine Ev_iload rfl rfl ?_
      refine Ev_i2l rfl ?_
      refine Ev_callV rfl rfl rfl rfl rfl (same_n 402) (m_isIdea _ hρ hM.2.1.1 hW _) ?_
      rintro v11 ρ11 σ11 ⟨rfl, e11, g11⟩
      obtain rfl := e11.symm
      obtain rfl := g11.symm
      refine Ev_if_ne rfl (fun h14 => ?_) (fun h14 => absurd (by rw [l_of, show decide (0 ≤ (nI y).toInt ∧ (nI y).toInt < (ni (aB A) : Int)) = true from hb]; decide) h14)
      refine Ev_aload rfl rfl rfl ?_
      refine Ev_callV rfl rfl rfl rfl rfl (same_n 402) (m_laysTide _ hρ (hM.rd hW) hM.2.1.2.2.1 hW hWt hWf hle (wf9 hA) nh) ?_
      rintro v20 ρ20 σ20 ⟨rfl, e20, t20⟩
      obtain rfl := e20.symm
      have hM1 := hM.mx t20.mx
      refine Ev_aload rfl rfl rfl ?_
      refine Ev_iload rfl rfl ?_
      refine Ev_iload rfl rfl ?_
      refine Ev_callV rfl rfl rfl rfl rfl (same_n 402) (m_keptOf _ hρ (hM1.rd hW) hM1.2.1.2.2.1 hW hWt hWf hle (wf9 hA) nh t20.2.2.2 (tdM_le _ _) hx hy) ?_
      rintro v26 ρ26 σ26 ⟨rfl, e26, t26⟩
      obtain rfl := e26.symm
      exact Ev_ireturn rfl rfl rfl rfl ⟨rfl, rfl, hM.pure (t20.mx.tr t26.mx)⟩
  · refine ⟨-1, A, hA, ?_, fun ρ σ hM => ?_⟩
    · refine T_of rfl ?_
      refine Ev_aload rfl rfl rfl ?_
      refine Ev_iload rfl rfl ?_
      refine Ev_iload rfl rfl ?_
      refine Ev_callV rfl rfl rfl rfl rfl (same_n 402) (t_hasBoth _ _ _ hC.1.1 hC.2.1 hW) ?_
      rintro v3 ρ3 σ3 ⟨rfl, e3, g3⟩
      obtain rfl := e3.symm
      obtain rfl := g3.symm
      refine Ev_if_ne rfl (fun h6 => absurd (show bI (hasF (nb (aB A)) a && hasF (ni (aB A)) b) = 0 by rw [both_no h]; rfl) h6) (fun h6 => ?_)
      refine Ev_const rfl ?_
      exact Ev_ireturn rfl rfl rfl rfl ⟨rfl, hC.same⟩
    · have hρ := hM.1
      refine T_of rfl ?_
      refine Ev_aload rfl rfl rfl ?_
      refine Ev_iload rfl rfl ?_
      refine Ev_callV rfl rfl rfl rfl rfl (same_n 402) (m_isBather _ hρ hM.2.1.1 hW _) ?_
      rintro v2 ρ2 σ2 ⟨rfl, e2, g2⟩
      obtain rfl := e2.symm
      obtain rfl := g2.symm
      refine Ev_if_eq rfl (fun h5 => ?_) (fun h5 => ?_)
      · refine Ev_const rfl ?_
        exact Ev_ireturn rfl rfl rfl rfl ⟨rfl, rfl, hM.same⟩
      · refine Ev_aload rfl rfl rfl ?_
        refine Ev_iload rfl rfl ?_
        refine Ev_i2l rfl ?_
        refine Ev_callV rfl rfl rfl rfl rfl (same_n 402) (m_isIdea _ hρ hM.2.1.1 hW _) ?_
        rintro v11 ρ11 σ11 ⟨rfl, e11, g11⟩
        obtain rfl := e11.symm
        obtain rfl := g11.symm
        refine Ev_if_ne rfl (fun h14 => absurd (Bool.and_eq_true_iff.mpr ⟨rt_of h5, by have := rt_of h14; rwa [l_of] at this⟩) h) (fun h14 => ?_)
        refine Ev_const rfl ?_
        exact Ev_ireturn rfl rfl rfl rfl ⟨rfl, rfl, hM.same⟩
theorem m_isAhead (d : Nat) {ρ : Rf} {σ : St} {h lo hi : Nat} (x : Int32) (hρ : RF ρ) (h0 : σ.1 365 0 = nI h) (h9 : h ≤ 2000) (hlo : lo ≤ 1000) (hhi : hi ≤ 1000) : T l X (d + 1) 217 [.ref 326, .int x, .int (nI lo), .int (nI hi)] 402 402 ρ σ (Rs (.int (bI (cmF h x lo hi))) ρ σ) := by
  have e9 : (999 : Int32).toInt = 999 := rfl
  have hin : decide ((nI lo).toInt64 ≤ x.toInt64 ∧ x.toInt64 ≤ (nI hi).toInt64) = decide ((lo : Int) ≤ x.toInt ∧ x.toInt ≤ (hi : Int)) := by
    apply decide_eq_decide.mpr
    rw [Int64.le_iff_toInt_le, Int64.le_iff_toInt_le, l_of, l_of, l_of, nI_toInt (by omega), nI_toInt (by omega)]
  refine T_of rfl ?_
  refine Ev_iload rfl rfl ?_
  refine Ev_i2l rfl ?_
  refine Ev_iload rfl rfl ?_
  refine Ev_i2l rfl ?_
  refine Ev_iload rfl rfl ?_
  refine Ev_i2l rfl ?_
  refine Ev_callS rfl rfl rfl rfl (same_n 402) (m_isIn _ _ _ _) ?_
  rintro v6 ρ6 σ6 ⟨rfl, e6, g6⟩
  obtain rfl := e6.symm
  obtain rfl := g6.symm
  refine Ev_if_eq rfl (fun h9 => ?_) (fun h9 => ?_)
  · refine Ev_const rfl ?_
    exact Ev_ireturn rfl rfl rfl rfl ⟨by
    have e : cmF h x lo hi = false := decide_eq_false (fun z => by have h9 := ff_of h9; rw [hin] at h9; exact (of_decide_eq_false h9) ⟨z.1, z.2.1⟩)
    rw [e]; rfl, rfl, rfl⟩
  · refine Ev_aload rfl rfl rfl ?_
    refine Ev_getR rfl (by first | rfl | assumption) (hρ _ _ _ rfl) ?_
    refine Ev_const rfl ?_
    refine Ev_iald rfl (by first | rfl | assumption) (vp_in_nI (n := 0) (by decide) (by decide)) ?_
    refine Ev_norm h0 ?_
    refine Ev_iload rfl rfl ?_
    refine Ev_iadd rfl ?_
    refine Ev_const rfl ?_
    have hq := of_decide_eq_true (by have := rt_of h9; rwa [hin] at this)
    have es : (nI h + x).toInt = (h : Int) + x.toInt := by rw [Int32.toInt_add, nI_toInt (by omega), bm32 (by omega)]
    refine Ev_icmp_gt rfl (fun h23 => ?_) (fun h23 => ?_)
    · refine Ev_const rfl ?_
      exact Ev_ireturn rfl rfl rfl rfl ⟨by
      have e : cmF h x lo hi = false := decide_eq_false (fun z => by rw [Int32.lt_iff_toInt_lt, es, e9] at h23; omega)
      rw [e]; rfl, rfl, rfl⟩
    · refine Ev_const rfl ?_
      refine Ev_goto rfl ?_
      exact Ev_ireturn rfl rfl rfl rfl ⟨by
      have e : cmF h x lo hi = true := decide_eq_true (by rw [Int32.lt_iff_toInt_lt, es, e9] at h23; omega)
      rw [e]; rfl, rfl, rfl⟩
theorem cmF_of {h : Nat} {x : Int32} {lo hi : Nat} (hh : hi ≤ 1000) (hq : cmF h x lo hi = true) : ∃ n : Nat, lo ≤ n ∧ n ≤ hi ∧ h + n ≤ 999 ∧ x = nI n := by
  have hq := of_decide_eq_true hq
  obtain ⟨n, hn, rfl⟩ := in_of (x := x) (n := hi + 1) (by omega)
  rw [nI_toInt (by omega)] at hq
  exact ⟨n, by omega, by omega, by omega, rfl⟩
theorem cmF_nI {h n lo hi : Nat} (hh : hi ≤ 1000) (h1 : lo ≤ n) (h2 : n ≤ hi) (h3 : h + n ≤ 999) : cmF h (nI n) lo hi = true := decide_eq_true (by rw [nI_toInt (by omega)]; omega)
theorem op_tide (a : Int32) : OpI l X InvA 119 230 [.int a] := by
  refine op_of (fun A q ρ σ hA hC hρ => ?_)
  have hW := hA.1.1
  have hWt := hA.1.2.1
  have hWf := hA.1.2.2.1
  have nh : (aN A).1 ≤ 2000 := Nat.le_trans hA.2.1.1 (by decide)
  have hSw := hA.2.1.2.1
  have hle : ∀ b i, (aN A).2.1 b i ≤ 99 := fun b i => (hSw b i).1
  have hhr := hC.2.2.2.1.1
  by_cases h : cmF (aN A).1 a 0 60 = true
  · obtain ⟨n, -, hn, hn9, rfl⟩ := cmF_of (by decide) h
    refine ⟨nI (tdM (aB A) ((aN A).1 + n)), A, hA, ?_, fun ρ σ hM => ?_⟩
    · refine T_of rfl ?_
      refine Ev_aload rfl rfl rfl ?_
      refine Ev_iload rfl rfl ?_
      refine Ev_const rfl ?_
      refine Ev_const rfl ?_
      refine Ev_callV rfl rfl rfl rfl rfl (same_n 402) (t_comes _ _ (lo := 0) (hi := 60) hρ hhr nh (by decide) (by decide)) ?_
      rintro v5 ρ5 σ5 ⟨rfl, e5, g5⟩
      obtain rfl := e5.symm
      obtain rfl := g5.symm
      refine Ev_if_eq rfl (fun h8 => absurd h8 (by rw [h]; decide)) (fun h8 => ?_)
      refine Ev_aload rfl rfl rfl ?_
      refine Ev_getR rfl (by first | rfl | assumption) (hρ _ _ _ rfl) ?_
      refine Ev_aload rfl rfl rfl ?_
      refine Ev_getR rfl (by first | rfl | assumption) (hρ _ _ _ rfl) ?_
      refine Ev_getI rfl (by first | rfl | assumption) ?_
      refine Ev_norm hhr ?_
      refine Ev_iload rfl rfl ?_
      refine Ev_iadd rfl ?_
      refine Ev_norm (nI_add _ _) ?_
      refine Ev_callV rfl rfl rfl rfl rfl (same_n 402) (t_tideAt _ hC.2.1 hWf (by omega)) ?_
      rintro v24 ρ24 σ24 ⟨rfl, e24, s24, -, -⟩
      obtain rfl := e24.symm
      refine Ev_goto rfl ?_
      exact Ev_ireturn rfl rfl rfl rfl ⟨rfl, hC.pure (s24.wk (fun _ _ h => cL_X h))⟩
    · have hρ := hM.1
      have h0 := hM.2.2.2.1.1
      have hR := hM.rd hW
      refine T_of rfl ?_
      refine Ev_aload rfl rfl rfl ?_
      refine Ev_iload rfl rfl ?_
      refine Ev_const rfl ?_
      refine Ev_const rfl ?_
      refine Ev_callV rfl rfl rfl rfl rfl (same_n 402) (m_isAhead _ _ (lo := 0) (hi := 60) hρ h0 nh (by decide) (by decide)) ?_
      rintro v5 ρ5 σ5 ⟨rfl, e5, g5⟩
      obtain rfl := e5.symm
      obtain rfl := g5.symm
      refine Ev_if_ne rfl (fun h8 => ?_) (fun h8 => absurd (by rw [h]; decide) h8)
      refine Ev_aload rfl rfl rfl ?_
      refine Ev_getR rfl (by first | rfl | assumption) (hρ _ _ _ rfl) ?_
      refine Ev_const rfl ?_
      refine Ev_dup2 rfl (fun _ q => nomatch q) (fun _ q => nomatch q) ?_
      refine Ev_iald rfl (by first | rfl | assumption) (vp_in_nI (n := 0) (by decide) (by decide)) ?_
      refine Ev_norm h0 ?_
      refine Ev_iload rfl rfl ?_
      refine Ev_iadd rfl ?_
      refine Ev_norm (nI_add _ _) ?_
      refine Ev_iast rfl (by first | rfl | assumption) (vp_in_nI (n := 0) (by decide) (by decide)) ?_
      refine Ev_st rfl (rfl : _ = sI σ 365 (upd (σ.1 365) 0 (nI ((aN A).1 + n)))) ?_
      have hm : MF (fun q => Nat.beq q 365) cN0 σ (sI σ 365 (upd (σ.1 365) 0 (nI ((aN A).1 + n)))) := MF.cell _ (by decide) rfl
      refine Ev_aload rfl rfl rfl ?_
      refine Ev_callV rfl rfl rfl rfl rfl (same_n 402) (m_laysTide _ hρ (hR.mfn hm rfl rfl (fun b i hb hi => by rw [sR_0, pk_un (by omega)]; exact hR.2.2.1 b i hb hi) (by rw [sR_0, pk_us])) (hM.2.1.2.2.1.mf hm rfl) hW hWt hWf hle (wf9 hA) (by omega)) ?_
      rintro v24 ρ24 σ24 ⟨rfl, e24, t24⟩
      obtain rfl := e24.symm
      refine Ev_aload rfl rfl rfl ?_
      refine Ev_getR rfl (by first | rfl | assumption) (hρ _ _ _ rfl) ?_
      refine Ev_const rfl ?_
      refine Ev_dup2 rfl (fun _ q => nomatch q) (fun _ q => nomatch q) ?_
      refine Ev_iald rfl (by first | rfl | assumption) (vp_in_nI (n := 0) (by decide) (by decide)) ?_
      refine Ev_norm (by rw [t24.1 365 (by decide), sR_0]; exact pk_us : _ = nI ((aN A).1 + n)) ?_
      refine Ev_iload rfl rfl ?_
      refine Ev_isub rfl ?_
      refine Ev_norm (pk_sub (a := (aN A).1 + n) (b := n) (by omega) : _ = nI ((aN A).1 + n - n)) ?_
      refine Ev_norm (by rw [Nat.add_sub_cancel] : _ = nI (aN A).1) ?_
      refine Ev_iast rfl (by first | rfl | assumption) (vp_in_nI (n := 0) (by decide) (by decide)) ?_
      refine Ev_aload rfl rfl rfl ?_
      refine Ev_getI rfl (by first | rfl | assumption) ?_
      refine Ev_norm (by rw [sR_1 _ _ (by decide)]; exact t24.2.2.2 : _ = nI (tdM (aB A) ((aN A).1 + n))) ?_
      exact Ev_ireturn rfl rfl rfl rfl (by
      have e : upd (σ24.1 365) ((0 : Int32).toNatClampNeg) (nI (aN A).1) = σ.1 365 := by
        funext j
        rw [show (0 : Int32).toNatClampNeg = 0 from rfl, t24.1 365 (by decide), sR_0]
        by_cases hj : j = 0
        · subst hj; rw [pk_us, h0]
        · rw [pk_un hj, pk_un hj]
      have hf : MF scC scF σ (sI σ24 365 (upd (σ24.1 365) ((0 : Int32).toNatClampNeg) (nI (aN A).1))) := by
        refine ⟨fun q hq hc => ?_, fun q hq => (t24.2.1 q hq), fun j hj => ?_⟩
        · by_cases hqn : q = 365
          · subst hqn; rw [sR_0, e]
          · rw [sR_1 _ _ hqn, t24.1 q hq, sR_1 _ _ hqn]
        · rw [sR_1 _ _ (by decide), t24.mx.2.2 j hj, sR_1 _ _ (by decide)]
      exact ⟨rfl, rfl, hM.pure hf⟩)
  · refine ⟨-1, A, hA, ?_, fun ρ σ hM => ?_⟩
    · refine T_of rfl ?_
      refine Ev_aload rfl rfl rfl ?_
      refine Ev_iload rfl rfl ?_
      refine Ev_const rfl ?_
      refine Ev_const rfl ?_
      refine Ev_callV rfl rfl rfl rfl rfl (same_n 402) (t_comes _ _ (lo := 0) (hi := 60) hρ hhr nh (by decide) (by decide)) ?_
      rintro v5 ρ5 σ5 ⟨rfl, e5, g5⟩
      obtain rfl := e5.symm
      obtain rfl := g5.symm
      refine Ev_if_eq rfl (fun h8 => ?_) (fun h8 => absurd (by rw [Bool.eq_false_iff.mpr h]; rfl) h8)
      refine Ev_const rfl ?_
      exact Ev_ireturn rfl rfl rfl rfl ⟨rfl, hC.same⟩
    · have hρ := hM.1
      refine T_of rfl ?_
      refine Ev_aload rfl rfl rfl ?_
      refine Ev_iload rfl rfl ?_
      refine Ev_const rfl ?_
      refine Ev_const rfl ?_
      refine Ev_callV rfl rfl rfl rfl rfl (same_n 402) (m_isAhead _ _ (lo := 0) (hi := 60) hρ hM.2.2.2.1.1 nh (by decide) (by decide)) ?_
      rintro v5 ρ5 σ5 ⟨rfl, e5, g5⟩
      obtain rfl := e5.symm
      obtain rfl := g5.symm
      refine Ev_if_ne rfl (fun h8 => absurd (by rw [Bool.eq_false_iff.mpr h]; rfl) h8) (fun h8 => ?_)
      refine Ev_const rfl ?_
      exact Ev_ireturn rfl rfl rfl rfl ⟨rfl, rfl, hM.same⟩
end S58
