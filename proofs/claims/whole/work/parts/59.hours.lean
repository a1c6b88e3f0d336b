/-! Hours. -/
def nH (B : Bh) (N : Mo) (n : Nat) : Mo := (N.1 + n, adS B N.2.2.1 (wit B) N.1 n N.2.1, N.2.2.1, adK B N.2.2.1 N.2.1 (wit B) N.1 n N.2.2.2)
theorem kpH_40 {B : Bh} {P : Nat → Nat} {S : Str} {W : Nat → Nat} {h tide : Nat} {K : Nat × (Nat → Nat)} (hk : K.1 ≤ 40) : (kpH B P S W h tide K).1 ≤ 40 := by
  unfold kpH
  by_cases hc : dkN B P S W h tide = 0
  · rw [if_pos hc]; exact hk
  · rw [if_neg hc]; exact kpA_40 hk
theorem adK_40 {B : Bh} {P : Nat → Nat} {S : Str} {W : Nat → Nat} {h : Nat} {K : Nat × (Nat → Nat)} (hk : K.1 ≤ 40) (n : Nat) : (adK B P S W h n K).1 ≤ 40 := by
  induction n with
  | zero => exact hk
  | succ n ih => exact kpH_40 ih
theorem nH_wf {B : Bh} {N : Mo} (h : WfM B N) {n : Nat} (hn : N.1 + n ≤ 999) : WfM B (nH B N n) := ⟨hn, adS_wf h.2.2.1 h.2.1 n, h.2.2.1, adK_40 h.2.2.2 n⟩
theorem adC_le {B : Bh} {P : Nat → Nat} {S : Str} {W : Nat → Nat} {h : Nat} (n : Nat) : adC B P S W h n ≤ n := by
  induction n with
  | zero => exact Nat.le_refl _
  | succ n ih =>
    show adC B P S W h n + dkC B P (adS B P W h n S) W (h + n) (tdM B (h + n)) ≤ n + 1
    have : dkC B P (adS B P W h n S) W (h + n) (tdM B (h + n)) ≤ 1 := by
      unfold dkC
      by_cases hc : dkN B P (adS B P W h n S) W (h + n) (tdM B (h + n)) = 0
      · rw [if_pos hc]; exact Nat.zero_le _
      · rw [if_neg hc]; exact Nat.le_refl _
    omega
theorem cP_NP {k j : Nat} (h : cNP k j = false) : cP k j = false := by
  have h1 := cX_NP h
  have h2 : k < 32 ∨ 264 < k := by
    by_cases hq : 32 ≤ k ∧ k ≤ 264
    · rw [cNP_in hq.1 hq.2] at h; cases h
    · omega
  unfold cP
  rw [cL_X h1, nbeq (show k ≠ 42 by omega), nbeq (show k ≠ 32 by omega)]
  cases hq : Nat.ble 34 k
  · rfl
  · cases hq2 : Nat.ble k 39
    · rfl
    · rw [Nat.ble_eq] at hq hq2; omega
theorem CMo.now {σ : St} {B : Bh} {N : Mo} (H : CMo σ 32 B N) : CNow σ B N.1 N.2.1 N.2.2.1 N.2.2.2 := H
theorem CNow.mo {σ : St} {B : Bh} {h : Nat} {S : Str} {P : Nat → Nat} {K : Nat × (Nat → Nat)} (H : CNow σ B h S P K) : CMo σ 32 B (h, S, P, K) := H
section S59
variable {l : Launch} {X : Cx}
theorem hr_loop {d N n q : Nat} {ρ : Rf} {B : Bh} {h : Nat} {S : Str} {P : Nat → Nat} {K : Nat × (Nat → Nat)} (hW : WfN B) (hWt : WfT B) (hWf : WfF B) (hS : WfS B S) (hP : WfP B P) (hh : h + n ≤ 2000) (σ0 : St) :
    ∀ (m k : Nat) (σ : St), k + m = n → CF cP σ0 σ → CRd ρ σ q B → CNow σ B (h + k) (adS B P (wit B) h k S) P (adK B P S (wit B) h k K) →
    Ev l X (d + 6) 134 32 [.ref 0, .int (nI n), .int (nI (adC B P S (wit B) h k)), .int (nI k)] [] 402 402 402 ρ σ (fun v ρ' σ' => v = some (.int (nI (adC B P S (wit B) h n))) ∧ ρ' = ρ ∧ CF cP σ0 σ' ∧ CNow σ' B (h + n) (adS B P (wit B) h n S) P (adK B P S (wit B) h n K)) := by
  intro m
  induction m with
  | zero =>
    intro k σ hk hs hR hN
    have hk : k = n := by omega
    subst hk
    refine Ev_iload rfl rfl ?_
    refine Ev_iload rfl rfl ?_
    refine Ev_icmp_ge rfl (fun h34 => ?_) (fun h34 => absurd (nI_le (Nat.le_refl _) (by omega)) h34)
    refine Ev_iload rfl rfl ?_
    exact Ev_ireturn rfl rfl rfl rfl ⟨rfl, rfl, hs, hN⟩
  | succ m ih =>
    intro k σ hk hs hR hN
    have hρ := hR.1
    have hSk := adS_wf (W := wit B) (h := h) hP hS k
    refine Ev_iload rfl rfl ?_
    refine Ev_iload rfl rfl ?_
    refine Ev_icmp_ge rfl (fun h34 => absurd h34 (nI_ge (by omega) (by omega))) (fun h34 => ?_)
    refine Ev_iload rfl rfl ?_
    refine Ev_aload rfl rfl rfl ?_
    refine Ev_getR rfl (by first | rfl | assumption) (hρ _ _ _ rfl) ?_
    refine Ev_aload rfl rfl rfl ?_
    refine Ev_getR rfl (by first | rfl | assumption) (hρ _ _ _ rfl) ?_
    refine Ev_aload rfl rfl rfl ?_
    refine Ev_getR rfl (by first | rfl | assumption) (hρ _ _ _ rfl) ?_
    refine Ev_aload rfl rfl rfl ?_
    refine Ev_getR rfl (by first | rfl | assumption) (hρ _ _ _ rfl) ?_
    refine Ev_getI rfl (by first | rfl | assumption) ?_
    refine Ev_norm hN.1 ?_
    refine Ev_callV rfl rfl rfl rfl rfl (same_n 402) (t_tideAt _ hR hWf (by omega)) ?_
    rintro v57 ρ57 σ57 ⟨rfl, e57, s57, -, -⟩
    obtain rfl := e57.symm
    have hN' : CNow σ57 B (h + k) (adS B P (wit B) h k S) P (adK B P S (wit B) h k K) := (CMo.cf hN.mo s57 (fun k j k1 k2 => cL_X (cX_f (by omega)))).now
    refine Ev_callV rfl rfl rfl rfl rfl (same_n 402) (t_passAll _ (hR.cl s57) hN' hW hWt hWf hSk hP (by omega) (tdM_le B (h + k))) ?_
    rintro v60 ρ60 σ60 ⟨rfl, e60, s60, n60⟩
    obtain rfl := e60.symm
    refine Ev_iadd rfl ?_
    refine Ev_norm (nI_add _ _) ?_
    refine Ev_istore rfl ?_
    refine Ev_iincE rfl rfl (nI_1 k) ?_
    refine Ev_goto rfl ?_
    exact ih (k + 1) σ60 (by omega) ((hs.tr (s57.wk (fun _ _ h => cL_P h))).tr s60) ((hR.cl s57).cp s60) n60
theorem MMo.hh {σ σ' : St} {B : Bh} {N : Mo} {n : Nat} (hW : WfN B) (H : MMo (σ.1 365) B N) (hq : HhQ B N.2.2.1 N.2.1 (wit B) N.1 n false N.2.2.2 σ σ') : MMo (σ'.1 365) B (nH B N n) := by
  obtain ⟨q1, q2, q3, q4, q5, q6⟩ := hq
  have h16 := hW.2.2.2.1
  obtain ⟨k1, k2, k3, k4⟩ := q5.2 rfl
  exact ⟨q2.2.2.2.2, q2.2.2.1, fun j hj => by rw [q3 _ (by omega) (by omega)]; exact H.2.2.1 j hj, k3, k4⟩
theorem op_hours (a : Int32) : OpI l X InvA 134 258 [.int a] := by
  refine op_of (fun A q ρ σ hA hC hρ => ?_)
  have hW := hA.1.1
  have hWt := hA.1.2.1
  have hWf := hA.1.2.2.1
  have nh : (aN A).1 ≤ 2000 := Nat.le_trans hA.2.1.1 (by decide)
  have hSw := hA.2.1.2.1
  have hPw := hA.2.1.2.2.1
  have hhr := hC.2.2.2.1.1
  by_cases h : cmF (aN A).1 a 1 100 = true
  · obtain ⟨n, hn1, hn, hn9, rfl⟩ := cmF_of (by decide) h
    refine ⟨nI (adC (aB A) (aN A).2.2.1 (aN A).2.1 (wit (aB A)) (aN A).1 n), sP (sN A (nH (aB A) (aN A) n)) (pushP (aP A) (aN A)), hA.nowP (nH_wf hA.2.1 hn9), ?_, fun ρ σ hM => ?_⟩
    · refine T_of rfl ?_
      refine Ev_aload rfl rfl rfl ?_
      refine Ev_iload rfl rfl ?_
      refine Ev_const rfl ?_
      refine Ev_const rfl ?_
      refine Ev_callV rfl rfl rfl rfl rfl (same_n 402) (t_comes _ _ (lo := 1) (hi := 100) hρ hhr nh (by decide) (by decide)) ?_
      rintro v5 ρ5 σ5 ⟨rfl, e5, g5⟩
      obtain rfl := e5.symm
      obtain rfl := g5.symm
      refine Ev_if_ne rfl (fun h8 => ?_) (fun h8 => absurd (by rw [h]; decide) h8)
      refine Ev_aload rfl rfl rfl ?_
      refine Ev_getR rfl (by first | rfl | assumption) (hρ _ _ _ rfl) ?_
      refine Ev_aload rfl rfl rfl ?_
      refine Ev_getR rfl (by first | rfl | assumption) (hρ _ _ _ rfl) ?_
      refine Ev_callV rfl rfl rfl rfl rfl (same_n 402) (t_push _ hρ hW hC.2.2.2.1 hC.2.2.2.2.1 hA.2.2.1.1) ?_
      rintro v25 ρ25 σ25 ⟨rfl, e25, p1, p2, p3⟩
      obtain rfl := e25.symm
      refine Ev_const rfl ?_
      refine Ev_istore rfl ?_
      refine Ev_const rfl ?_
      refine Ev_istore rfl ?_
      have hR' := hC.2.1.eq (fun k hk => p3 k (by omega)) ρ hρ rfl
      have hN' : CMo σ25 32 (aB A) (aN A) := hC.2.2.2.1.eq (fun r hr => p3 _ (by omega))
      refine Ev.mono (hr_loop (N := 0) (h := (aN A).1) (S := (aN A).2.1) (P := (aN A).2.2.1) (K := (aN A).2.2.2) hW hWt hWf hSw hPw (by omega) σ25 n 0 σ25 (by omega) (CF.rf _ _) hR' hN'.now) (fun v ρ' σ' hq => ?_)
      obtain ⟨rfl, rfl, q1, q2⟩ := hq
      have f1 := (fr_push p2 p3).tr (q1.wk (fun _ _ h => cP_NP h))
      exact ⟨rfl, hρ, cNP_up f1, q, hC.nowP f1 q2.mo (p1.cf q1 (fun k j k1 k2 => by
        unfold cP
        rw [cL_X (cX_f (by omega)), nbeq (show k ≠ 42 by omega), nbeq (show k ≠ 32 by omega)]
        cases hq2 : Nat.ble k 39
        · cases Nat.ble 34 k <;> rfl
        · rw [Nat.ble_eq] at hq2; omega))⟩
    · have hρ := hM.1
      refine T_of rfl ?_
      refine Ev_aload rfl rfl rfl ?_
      refine Ev_iload rfl rfl ?_
      refine Ev_const rfl ?_
      refine Ev_const rfl ?_
      refine Ev_callV rfl rfl rfl rfl rfl (same_n 402) (m_isAhead _ _ (lo := 1) (hi := 100) hρ hM.2.2.2.1.1 nh (by decide) (by decide)) ?_
      rintro v5 ρ5 σ5 ⟨rfl, e5, g5⟩
      obtain rfl := e5.symm
      obtain rfl := g5.symm
      refine Ev_if_ne rfl (fun h8 => ?_) (fun h8 => absurd (by rw [h]; decide) h8)
      refine Ev_aload rfl rfl rfl ?_
      refine Ev_callV rfl rfl rfl rfl rfl (same_n 402) (m_stores _ hρ hW hM.2.2.2.1 hA.2.1.2.2.2 (MPas.st hM) hA.2.2.1.1 (h40s hA)) ?_
      rintro v18 ρ18 σ18 ⟨rfl, e18, p1, p2⟩
      obtain rfl := e18.symm
      have hn18 : σ18.1 365 = σ.1 365 := p2.1 365 (by decide) rfl
      have hk18 := (hM.kp hA).mf p2 rfl (fun j _ => by rw [hn18])
      refine Ev_aload rfl rfl rfl ?_
      refine Ev_iload rfl rfl ?_
      refine Ev_callV rfl rfl rfl rfl rfl (same_n 402) (m_hoursGo _ hρ ((hM.rd hW).mf p2 rfl rfl) (hM.2.1.2.2.1.mf p2 rfl) hW hWt hWf hSw hPw (fun j hj => by rw [hn18]; exact hM.pl j hj) (wf9 hA) (by omega) hk18) ?_
      rintro v23 ρ23 σ23 ⟨rfl, e23, hq⟩
      obtain rfl := e23.symm
      refine Ev_aload rfl rfl rfl ?_
      refine Ev_getI rfl (by first | rfl | assumption) ?_
      refine Ev_norm hq.2.2.2.2.2 ?_
      exact Ev_ireturn rfl rfl rfl rfl (by
      have f1 := (mf_store p2).tr (hq.1.wk (fun _ q => cAN_K q) (fun _ q => fH_G q))
      have hn : MMo (σ18.1 365) (aB A) (aN A) := by rw [hn18]; exact hM.2.2.2.1
      exact ⟨rfl, rfl, scK_up f1, hM.nowP f1 (hn.hh hW hq) (p1.mf hq.1 rfl rfl)⟩)
  · refine ⟨-1, sU A 3, hA.refu 3, ?_, fun ρ σ hM => ?_⟩
    · refine T_of rfl ?_
      refine Ev_aload rfl rfl rfl ?_
      refine Ev_iload rfl rfl ?_
      refine Ev_const rfl ?_
      refine Ev_const rfl ?_
      refine Ev_callV rfl rfl rfl rfl rfl (same_n 402) (t_comes _ _ (lo := 1) (hi := 100) hρ hhr nh (by decide) (by decide)) ?_
      rintro v5 ρ5 σ5 ⟨rfl, e5, g5⟩
      obtain rfl := e5.symm
      obtain rfl := g5.symm
      refine Ev_if_ne rfl (fun h8 => absurd (by rw [Bool.eq_false_iff.mpr h]; rfl) h8) (fun h8 => ?_)
      refine Ev_aload rfl rfl rfl ?_
      refine Ev_const rfl ?_
      refine Ev_callV rfl rfl rfl rfl rfl (same_n 402) (t_refuse _ hρ (w := 3) (by decide)) ?_
      rintro v13 ρ13 σ13 ⟨rfl, e13, g13⟩
      obtain rfl := e13.symm
      obtain rfl := g13.symm
      exact Ev_ireturn rfl rfl rfl rfl ⟨rfl, hρ, upM.bump _, q, hC.refu (by decide)⟩
    · have hρ := hM.1
      refine T_of rfl ?_
      refine Ev_aload rfl rfl rfl ?_
      refine Ev_iload rfl rfl ?_
      refine Ev_const rfl ?_
      refine Ev_const rfl ?_
      refine Ev_callV rfl rfl rfl rfl rfl (same_n 402) (m_isAhead _ _ (lo := 1) (hi := 100) hρ hM.2.2.2.1.1 nh (by decide) (by decide)) ?_
      rintro v5 ρ5 σ5 ⟨rfl, e5, g5⟩
      obtain rfl := e5.symm
      obtain rfl := g5.symm
      refine Ev_if_ne rfl (fun h8 => absurd (by rw [Bool.eq_false_iff.mpr h]; rfl) h8) (fun h8 => ?_)
      refine Ev_aload rfl rfl rfl ?_
      refine Ev_const rfl ?_
      refine Ev_callV rfl rfl rfl rfl rfl (same_n 402) (m_refuses _ hρ (w := 3) (by decide)) ?_
      rintro v13 ρ13 σ13 ⟨rfl, e13, g13⟩
      obtain rfl := e13.symm
      obtain rfl := g13.symm
      exact Ev_ireturn rfl rfl rfl rfl ⟨rfl, rfl, upC.bump _, hM.refu (by decide)⟩
end S59
