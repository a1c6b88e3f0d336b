/-! The call wits. -/
theorem WaysOk.eq {σ σ' : St} {B : Bh} {P : Nat → Nat} {S : Str} {h b v n : Nat} (H : WaysOk σ B P S h b v n) (he : σ'.1 373 = σ.1 373) : WaysOk σ' B P S h b v n := by
  unfold WaysOk at H ⊢
  rw [he]; exact H
section S80
variable {l : Launch} {X : Cx} {ρ : Rf}
theorem m_thAnew2 (d : Nat) {σ0 σ : St} {A : Ab} {S : Str} {W : Nat → Nat} {h : Nat} {P : Nat → Nat} (hM : RM ρ σ0 A) (hW : WfN (aB A)) (H : MTh σ0 (aB A) S W h P σ) : T l X (d + 1) 215 [.ref 326] 402 402 ρ σ (fun v ρ' σ' => v = none ∧ ρ' = ρ ∧ MTh σ0 (aB A) (aN A).2.1 W (aN A).1 (aN A).2.2.1 σ' ∧ ∀ q, q ≠ 365 → σ'.1 q = σ.1 q) := by
  refine (m_triesAnew _ hM.1).mono (fun v ρ' σ' hq => ?_)
  obtain ⟨rfl, rfl, f, rfl, hf⟩ := hq
  obtain ⟨h1, h2, h3, h4, h5, h6, h7⟩ := H
  have n16 := hW.2.2.2.1
  have e : f = σ0.1 365 := by
    funext j
    rw [hf j]
    by_cases hj : j < 81
    · rw [if_pos hj, h6 j hj]
    · rw [if_neg hj, h5 j (by omega)]
  subst e
  have hs : MF (fun q => Nat.beq q 365) cN0 σ (sI σ 365 (σ0.1 365)) := MF.cell _ (by decide) rfl
  have hs2 : MF cTi fTi σ (sI σ 365 (σ0.1 365)) := MF.cell _ (by decide) rfl
  refine ⟨rfl, rfl, ⟨h1.tr hs2, h2.mfn hs rfl rfl (fun b i hb hi => by rw [sR_0]; exact hM.2.2.2.1.2.1 b i hb hi) (by rw [sR_0]; exact hM.2.2.2.1.1), fun j hj => by rw [sR_0]; exact hM.pl j hj, by rw [sR_1 _ _ (by decide)]; exact h4, fun j _ => by rw [sR_0], fun j hj => by rw [sR_1 _ _ (by decide)]; exact h6 j hj, h7.ti hs2⟩, fun q hq => sR_1 _ _ hq⟩
theorem fnd_ti {σ0 σ : St} {F : Nat × (Nat → Nat)} (H : MFnd σ0 F) (hs : MF cTi fTi σ0 σ) : MFnd σ F := H.mf hs rfl rfl
theorem wh_loop {d b v s : Nat} {σ0 : St} {A : Ab} {Q : Po} (hM : RM ρ σ0 A) (hA : WfA A) (hb : b < nb (aB A)) (hv : v < 10)
    (hQ : ∀ σ S h x y, MTh σ0 (aB A) S (wv (aB A) b v) h (aN A).2.2.1 σ → WaysOk σ (aB A) (aN A).2.2.1 (aN A).2.1 (aN A).1 b (v + 1) 0 → σ.1 326 53 = nI b → Ev l X (d + 9) 248 113 [.ref 326, .int (nI b), .int (nI s), .int (nI v), .int (bI (allK (aF A).1 (okW (aB A) (aN A).2.2.1 (aN A).2.1 (aN A).1 b (aF A).2 v))), x, y] [] 402 402 402 ρ σ Q) :
    ∀ (m n : Nat) (σ : St) (y : Value), n + m = 31 → MTh σ0 (aB A) (adS (aB A) (aN A).2.2.1 (wv (aB A) b v) (aN A).1 n (aN A).2.1) (wv (aB A) b v) ((aN A).1 + n) (aN A).2.2.1 σ → WaysOk σ (aB A) (aN A).2.2.1 (aN A).2.1 (aN A).1 b v n → σ.1 326 53 = nI b →
    Ev l X (d + 9) 248 30 [.ref 326, .int (nI b), .int (nI s), .int (nI v), .int (bI (allK n (fun m => asF (aB A) (adS (aB A) (aN A).2.2.1 (wv (aB A) b v) (aN A).1 m (aN A).2.1) ((aN A).1 + m) (aF A).1 (aF A).2 m))), .int (nI n), y] [] 402 402 402 ρ σ Q := by
  have hW := hA.1.1
  have hWt := hA.1.2.1
  have hWf := hA.1.2.2.1
  have nh := hA.2.1.1
  have hSw := hA.2.1.2.1
  have hPw := hA.2.1.2.2.1
  have hF : FOk (aB A) (aF A).1 (aF A).2 := hA.2.2.2.1.2
  have hr := hA.2.2.2.1.1
  have hρ := hM.1
  have hwv : ∀ b', wv (aB A) b v b' ≤ 9 := fun b' => by
    unfold wv
    by_cases hq : b' = b
    · rw [if_pos hq]; omega
    · rw [if_neg hq]; exact wf9 hA b'
  intro m
  induction m with
  | zero =>
    intro n σ y hn H hw htb
    have hn : n = 31 := by omega
    subst hn
    rw [as_ok hF nh]
    refine Ev_iload rfl rfl ?_
    refine Ev_const rfl ?_
    refine Ev_icmp_gt rfl (fun h34 => ?_) (fun h34 => absurd (by decide) h34)
    exact hQ σ _ _ _ _ H (fun v' m' i' a1 a2 a3 a4 => hw v' m' i' a1 a2 a3 (by omega)) htb
  | succ m ih =>
    intro n σ y hn H hw htb
    have hSn := adS_wf (W := wv (aB A) b v) (h := (aN A).1) hPw hSw n
    have hfd := fnd_ti hM.2.2.2.2.2.1 H.1
    have hSb : adS (aB A) (aN A).2.2.1 (wv (aB A) b v) (aN A).1 n (aN A).2.1 b = advB (aB A) (aN A).2.2.1 b v (aN A).1 n ((aN A).2.1 b) := by
      rw [adS_row hb, show wv (aB A) b v b = v from if_pos rfl]
    have key : ∀ z, z = bI (allK (n + 1) (fun m => asF (aB A) (adS (aB A) (aN A).2.2.1 (wv (aB A) b v) (aN A).1 m (aN A).2.1) ((aN A).1 + m) (aF A).1 (aF A).2 m)) → ∀ z0, Ev l X (d + 9) 248 56 [.ref 326, .int (nI b), .int (nI s), .int (nI v), .int z0, .int (nI n), y] [.int z] 402 402 402 ρ σ Q := by
      intro z hz z0
      subst hz
      refine Ev_istore rfl ?_
      refine Ev_const rfl ?_
      refine Ev_istore rfl ?_
      refine wy_loop (S0 := (aN A).2.1) (h0 := (aN A).1) hρ hW hb hv (by omega) hSb (fun σ2 x H2 hw2 htb2 => ?_) (ni (aB A)) 0 σ (by omega) H hw (fun j hj => absurd hj (Nat.not_lt_zero j)) htb
      refine Ev_aload rfl rfl rfl ?_
      refine Ev_const rfl ?_
      refine Ev_callV rfl rfl rfl rfl rfl (same_n 402) (m_hoursGo _ (S := adS (aB A) (aN A).2.2.1 (wv (aB A) b v) (aN A).1 n (aN A).2.1) (h := (aN A).1 + n) (th := true) (N := 1) (K := (0, fun _ => 0)) hρ H2.2.1 H2.2.2.2.2.2.2 hW hWt hWf hSn hPw H2.2.2.1 hwv (by omega) (mkp_th H2 _)) ?_
      rintro v104 ρ104 σ104 ⟨rfl, e104, hq⟩
      obtain rfl := e104.symm
      refine Ev_iincE rfl rfl (nI_1 n) ?_
      refine Ev_goto rfl ?_
      exact ih (n + 1) σ104 _ (by omega) (show MTh _ _ _ _ ((aN A).1 + n + 1) _ _ from MTh.hh (S := adS (aB A) (aN A).2.2.1 (wv (aB A) b v) (aN A).1 n (aN A).2.1) (n := 1) hW H2 hq) (hw2.eq (hq.1.1 _ (by decide) rfl)) (by rw [hq.1.2.2 _ rfl]; exact htb2)
    refine Ev_iload rfl rfl ?_
    refine Ev_const rfl ?_
    refine Ev_icmp_gt rfl (fun h34 => absurd h34 (nI_nlt (a := 30) (b := n) (by omega) (by decide))) (fun h34 => ?_)
    refine Ev_iload rfl rfl ?_
    refine Ev_if_eq rfl (fun h39 => ?_) (fun h39 => ?_)
    · refine Ev_const rfl ?_
      refine key 0 ?_ _
      show 0 = bI (allK n _ && _)
      rw [ff_of h39]; rfl
    · refine Ev_aload rfl rfl rfl ?_
      refine Ev_iload rfl rfl ?_
      refine Ev_callV rfl rfl rfl rfl rfl (same_n 402) (m_isAsFound _ hρ H hSn hW hr hF hfd (by omega) (by omega)) ?_
      rintro v45 ρ45 σ45 ⟨rfl, e45, g45⟩
      obtain rfl := e45.symm
      obtain rfl := g45.symm
      refine Ev_if_eq rfl (fun h48 => ?_) (fun h48 => ?_)
      · refine Ev_const rfl ?_
        refine key 0 ?_ _
        show 0 = bI (allK n _ && asF _ _ _ _ _ n)
        rw [ff_of h48, Bool.and_false]; rfl
      · refine Ev_const rfl ?_
        refine Ev_goto rfl ?_
        refine key 1 ?_ _
        show 1 = bI (allK n _ && asF _ _ _ _ _ n)
        rw [rt_of h39, rt_of h48]; rfl
theorem wV_loop {d b : Nat} {σ0 : St} {A : Ab} {Q : Po} (hM : RM ρ σ0 A) (hA : WfA A) (hb : b < nb (aB A))
    (hQ : ∀ σ S h W w4 w5 w6, MTh σ0 (aB A) S W h (aN A).2.2.1 σ → WaysOk σ (aB A) (aN A).2.2.1 (aN A).2.1 (aN A).1 b 10 0 → Ev l X (d + 9) 248 134 [.ref 326, .int (nI b), .int (nI (wtS (aB A) (aN A).2.2.1 (aN A).2.1 (aN A).1 b (aF A).1 (aF A).2)), .int (nI 10), w4, w5, w6] [] 402 402 402 ρ σ Q) :
    ∀ (m v : Nat) (σ : St) (w4 w5 w6 : Value), v + m = 10 → MTx σ0 (aB A) (aN A).2.1 (aN A).1 (aN A).2.2.1 σ → (v = 0 ∨ ∃ W, MWit σ (aB A) W) → WaysOk σ (aB A) (aN A).2.2.1 (aN A).2.1 (aN A).1 b v 0 → σ.1 326 53 = nI b →
    Ev l X (d + 9) 248 13 [.ref 326, .int (nI b), .int (nI (kset v (fun w => bif allK (aF A).1 (okW (aB A) (aN A).2.2.1 (aN A).2.1 (aN A).1 b (aF A).2 w) then 1 else 0))), .int (nI v), w4, w5, w6] [] 402 402 402 ρ σ Q := by
  have hW := hA.1.1
  have hρ := hM.1
  intro m
  induction m with
  | zero =>
    intro v σ w4 w5 w6 hv H hw1 hw htb
    have hv : v = 10 := by omega
    subst hv
    obtain ⟨W, hW1⟩ := hw1.resolve_left (by decide)
    refine Ev_iload rfl rfl ?_
    refine Ev_const rfl ?_
    refine Ev_icmp_ge rfl (fun h16 => ?_) (fun h16 => absurd (by decide) h16)
    exact hQ σ _ _ W _ _ _ (H.w hW1) hw
  | succ m ih =>
    intro v σ w4 w5 w6 hv H hw1 hw htb
    have hX := H.put (nI v) (Or.inr rfl)
    have hT := hX.w (wit_wv hW hX.2.1.2.1 hb (by rw [sR_0, pk_un (by decide)]; exact htb) (by rw [sR_0, pk_us]))
    refine Ev_iload rfl rfl ?_
    refine Ev_const rfl ?_
    refine Ev_icmp_ge rfl (fun h16 => absurd h16 (nI_ge (b := 10) (by omega) (by decide))) (fun h16 => ?_)
    refine Ev_aload rfl rfl rfl ?_
    refine Ev_iload rfl rfl ?_
    refine Ev_putI rfl (by first | rfl | assumption) ⟨rfl, rfl⟩ rfl ?_
    refine Ev_const rfl ?_
    refine Ev_istore rfl ?_
    refine Ev_const rfl ?_
    refine Ev_istore rfl ?_
    refine wh_loop hM hA hb (by omega) (fun σ2 S h x y H2 hw2 htb2 => ?_) 31 0 _ w6 (by decide) hT (hw.eq (sR_1 _ _ (by decide))) (by rw [sR_0, pk_un (by decide)]; exact htb)
    refine Ev_aload rfl rfl rfl ?_
    refine Ev_callV rfl rfl rfl rfl rfl (same_n 402) (m_thAnew2 _ hM hW H2) ?_
    rintro v114 ρ114 σ114 ⟨rfl, e114, t114, f114⟩
    obtain rfl := e114.symm
    refine Ev_iload rfl rfl ?_
    refine Ev_if_eq rfl (fun h119 => ?_) (fun h119 => ?_)
    · refine Ev_iincE rfl rfl (nI_1 v) ?_
      refine Ev_goto rfl ?_
      have e := kset_s0 (n := v) (f := fun w => bif allK (aF A).1 (okW (aB A) (aN A).2.2.1 (aN A).2.1 (aN A).1 b (aF A).2 w) then 1 else 0) (by show (bif allK (aF A).1 (okW (aB A) (aN A).2.2.1 (aN A).2.1 (aN A).1 b (aF A).2 v) then 1 else 0) = 0; rw [ff_of h119]; rfl)
      have := ih (v + 1) σ114 (.int (bI (allK (aF A).1 (okW (aB A) (aN A).2.2.1 (aN A).2.1 (aN A).1 b (aF A).2 v)))) x y (by omega) t114.x (Or.inr ⟨_, t114.2.1.2.2.2.1⟩) (hw2.eq (f114 _ (by decide))) (by rw [f114 326 (by decide)]; exact htb2)
      rw [e] at this
      exact this
    · refine Ev_iload rfl rfl ?_
      refine Ev_const rfl ?_
      refine Ev_iload rfl rfl ?_
      refine Ev_ishl rfl ?_
      refine Ev_ior rfl ?_
      refine Ev_norm (set_bit (kset_lt v _) (by omega)) ?_
      refine Ev_istore rfl ?_
      refine Ev_iincE rfl rfl (nI_1 v) ?_
      refine Ev_goto rfl ?_
      have e := kset_s1 (n := v) (f := fun w => bif allK (aF A).1 (okW (aB A) (aN A).2.2.1 (aN A).2.1 (aN A).1 b (aF A).2 w) then 1 else 0) (by show 0 < (bif allK (aF A).1 (okW (aB A) (aN A).2.2.1 (aN A).2.1 (aN A).1 b (aF A).2 v) then 1 else 0); rw [rt_of h119]; exact Nat.zero_lt_one)
      have := ih (v + 1) σ114 (.int (bI (allK (aF A).1 (okW (aB A) (aN A).2.2.1 (aN A).2.1 (aN A).1 b (aF A).2 v)))) x y (by omega) t114.x (Or.inr ⟨_, t114.2.1.2.2.2.1⟩) (hw2.eq (f114 _ (by decide))) (by rw [f114 326 (by decide)]; exact htb2)
      rw [e] at this
      exact this
theorem m_witsSet (d : Nat) {b : Nat} {σ0 : St} {A : Ab} (hM : RM ρ σ0 A) (hA : WfA A) (hb : b < nb (aB A)) : T l X (d + 9) 248 [.ref 326, .int (nI b)] 402 402 ρ σ0 (fun v ρ' σ' => v = some (.int (nI (wtS (aB A) (aN A).2.2.1 (aN A).2.1 (aN A).1 b (aF A).1 (aF A).2))) ∧ ρ' = ρ ∧ MF scC scF σ0 σ' ∧ WaysOk σ' (aB A) (aN A).2.2.1 (aN A).2.1 (aN A).1 b 10 0) := by
  have hW := hA.1.1
  have hρ := hM.1
  refine T_of rfl ?_
  refine Ev_const rfl ?_
  refine Ev_istore rfl ?_
  refine Ev_aload rfl rfl rfl ?_
  refine Ev_callV rfl rfl rfl rfl rfl (same_n 402) (m_thinks _ hM hW) ?_
  rintro v3 ρ3 σ3 ⟨rfl, e3, t3⟩
  obtain rfl := e3.symm
  refine Ev_aload rfl rfl rfl ?_
  refine Ev_iload rfl rfl ?_
  refine Ev_putI rfl (by first | rfl | assumption) ⟨rfl, rfl⟩ rfl ?_
  refine Ev_const rfl ?_
  refine Ev_istore rfl ?_
  refine wV_loop hM hA hb (fun σ2 S h W w4 w5 w6 H2 hw2 => ?_) 10 0 _ (.float 0) (.float 0) (.float 0) (by decide) (t3.x.put (nI b) (Or.inl rfl)) (Or.inl rfl) (fun v' m' i' a1 a2 a3 a4 => absurd a4 (by omega)) (by rw [sR_0, pk_us])
  refine Ev_aload rfl rfl rfl ?_
  refine Ev_callV rfl rfl rfl rfl rfl (same_n 402) (m_thBack _ hM H2) ?_
  rintro v135 ρ135 σ135 ⟨rfl, e135, f135, g135⟩
  obtain rfl := e135.symm
  refine Ev_iload rfl rfl ?_
  exact Ev_ireturn rfl rfl rfl rfl ⟨rfl, rfl, f135, hw2.eq (g135 _ (by decide) (by decide))⟩
theorem op_wits (a : Int32) : OpI l X InvA 129 249 [.int a] := by
  refine op_of (fun A q ρ σ hA hC hρ => ?_)
  have hW := hA.1.1
  have hWt := hA.1.2.1
  have hWf := hA.1.2.2.1
  have nh := hA.2.1.1
  have hSw := hA.2.1.2.1
  have hPw := hA.2.1.2.2.1
  have hCS : CStr σ (aN A).2.1 := fun b hb i hi => rf_str hC hb hi
  by_cases h : hasF (nb (aB A)) a = true
  · obtain ⟨b, hb, rfl⟩ := hasF_of h
    refine ⟨nI (wtS (aB A) (aN A).2.2.1 (aN A).2.1 (aN A).1 b (aF A).1 (aF A).2), A, hA, ?_, fun ρ σ hM => ?_⟩
    · refine T_of rfl ?_
      refine Ev_aload rfl rfl rfl ?_
      refine Ev_iload rfl rfl ?_
      refine Ev_callV rfl rfl rfl rfl rfl (same_n 402) ((t_hasX _ _ hC.1.1 hC.2.1 hW).2) ?_
      rintro v2 ρ2 σ2 ⟨rfl, e2, g2⟩
      obtain rfl := e2.symm
      obtain rfl := g2.symm
      refine Ev_if_eq rfl (fun h5 => absurd h5 (by rw [h]; decide)) (fun h5 => ?_)
      refine Ev_aload rfl rfl rfl ?_
      refine Ev_getR rfl (by first | rfl | assumption) (hρ _ _ _ rfl) ?_
      refine Ev_iload rfl rfl ?_
      refine Ev_callV rfl rfl rfl rfl rfl (same_n 402) (t_witsLeft _ (S := (aN A).2.1) (P := (aN A).2.2.1) (F := (aF A).2) (h := (aN A).1) (r := (aF A).1) ⟨hC.2.1, hC.2.2.2.1.2.2.1, hCS, hC.2.2.2.1.1, hC.2.2.2.2.2.1.1, hC.2.2.2.2.2.1.2⟩ hW hWt hWf hPw hSw nh hA.2.2.2.1.1 hA.2.2.2.1.2 hb) ?_
      rintro v13 ρ13 σ13 ⟨rfl, e13, s13⟩
      obtain rfl := e13.symm
      refine Ev_goto rfl ?_
      exact Ev_ireturn rfl rfl rfl rfl ⟨rfl, hC.pure (s13.wk (fun _ _ h => cR_X h))⟩
    · have hρ := hM.1
      refine T_of rfl ?_
      refine Ev_aload rfl rfl rfl ?_
      refine Ev_iload rfl rfl ?_
      refine Ev_callV rfl rfl rfl rfl rfl (same_n 402) (m_isBather _ hρ hM.2.1.1 hW _) ?_
      rintro v2 ρ2 σ2 ⟨rfl, e2, g2⟩
      obtain rfl := e2.symm
      obtain rfl := g2.symm
      refine Ev_if_eq rfl (fun h5 => absurd h5 (by rw [← hasF_eq, h]; decide)) (fun h5 => ?_)
      refine Ev_aload rfl rfl rfl ?_
      refine Ev_iload rfl rfl ?_
      refine Ev_callV rfl rfl rfl rfl rfl (same_n 402) (m_witsSet _ hM hA hb) ?_
      rintro v10 ρ10 σ10 ⟨rfl, e10, f10, -⟩
      obtain rfl := e10.symm
      refine Ev_goto rfl ?_
      exact Ev_ireturn rfl rfl rfl rfl ⟨rfl, rfl, hM.pure f10⟩
  · refine ⟨-1, A, hA, ?_, fun ρ σ hM => ?_⟩
    · refine T_of rfl ?_
      refine Ev_aload rfl rfl rfl ?_
      refine Ev_iload rfl rfl ?_
      refine Ev_callV rfl rfl rfl rfl rfl (same_n 402) ((t_hasX _ _ hC.1.1 hC.2.1 hW).2) ?_
      rintro v2 ρ2 σ2 ⟨rfl, e2, g2⟩
      obtain rfl := e2.symm
      obtain rfl := g2.symm
      refine Ev_if_eq rfl (fun h5 => ?_) (fun h5 => absurd (show bI (hasF (nb (aB A)) a) = 0 by rw [has_no h]; rfl) h5)
      refine Ev_const rfl ?_
      exact Ev_ireturn rfl rfl rfl rfl ⟨rfl, hC.same⟩
    · have hρ := hM.1
      refine T_of rfl ?_
      refine Ev_aload rfl rfl rfl ?_
      refine Ev_iload rfl rfl ?_
      refine Ev_callV rfl rfl rfl rfl rfl (same_n 402) (m_isBather _ hρ hM.2.1.1 hW _) ?_
      rintro v2 ρ2 σ2 ⟨rfl, e2, g2⟩
      obtain rfl := e2.symm
      obtain rfl := g2.symm
      refine Ev_if_eq rfl (fun h5 => ?_) (fun h5 => absurd (by rw [← hasF_eq, has_no h]; rfl) h5)
      refine Ev_const rfl ?_
      exact Ev_ireturn rfl rfl rfl rfl ⟨rfl, rfl, hM.same⟩
end S80
