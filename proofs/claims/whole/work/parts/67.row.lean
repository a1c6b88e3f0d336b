/-! A bather followed ahead: the class; later. -/
def advB (B : Bh) (P : Nat → Nat) (b w h : Nat) : Nat → (Nat → Nat) → Nat → Nat
  | 0, row => row
  | n + 1, row => hrB B (advB B P b w h n row) b w (h + n) (tdM B (h + n)) (pfM B P (h + n) b)
theorem advB_w {B : Bh} {P : Nat → Nat} {b w h : Nat} {row : Nat → Nat} (hP : WfP B P) (hr : Rw8 B row) (n : Nat) : Rw8 B (advB B P b w h n row) := by
  induction n with
  | zero => exact hr
  | succ n ih => exact ⟨hrB_le ih.1, fun i hi => hrB_0 (ih.2 i hi) (fun j hj => by have := (pfM_ok hP hj).2.2.2.2; omega)⟩
theorem adS_row {B : Bh} {P W : Nat → Nat} {S : Str} {h b : Nat} (hb : b < nb B) (n : Nat) : adS B P W h n S b = advB B P b (W b) h n (S b) := by
  induction n with
  | zero => rfl
  | succ n ih =>
    show hrS B P (adS B P W h n S) W (h + n) (tdM B (h + n)) b = hrB B (advB B P b (W b) h n (S b)) b (W b) (h + n) (tdM B (h + n)) (pfM B P (h + n) b)
    unfold hrS
    rw [if_pos hb, ih]
/-- a row of a bather, the cells of a moment's plan kept -/
theorem cLr_f {r k j : Nat} (h1 : k ≠ 16 ∧ k ≠ 31 ∧ k ≠ 265 ∧ (k ≠ 266 ∨ j = 9)) (h2 : k ≠ r) : cLr r k j = false := by
  unfold cLr
  rw [nbeq h2]
  have := cX_f (k := k) (j := j)
  unfold cL
  rw [nbeq h1.1, nbeq h1.2.1, nbeq h1.2.2.1]
  rcases h1.2.2.2 with q | q
  · rw [nbeq q]; rfl
  · rw [q]; cases Nat.beq k 266 <;> rfl
theorem CPl.cf {C : Nat → Nat → Bool} {σ σ' : St} {m : Nat} {B : Bh} {P : Nat → Nat} (H : CPl σ m B P) (hs : CF C σ σ') (h0 : ∀ j, C m j = false) (h1 : ∀ j, C (m + 8) j = false) (h2 : ∀ j, C (m + 9) j = false) : CPl σ' m B P := ⟨by rw [hs.1 m _ (h0 _)]; exact H.1, fun k hk => by rw [hs.1 _ _ (h1 _), hs.1 _ _ (h2 _)]; exact H.2 k hk⟩
section S67
variable {l : Launch} {X : Cx} {ρ : Rf} {B : Bh} {q : Nat}
theorem rr_loop {d m b w h N : Nat} {row P : Nat → Nat} {Q : Po} (hW : WfN B) (hWt : WfT B) (hWf : WfF B) (hm : m = 32 ∨ m = 268) (hP : WfP B P) (h8 : Rw8 B row) (hw9 : w ≤ 9) (hh : h + N ≤ 2000) (hb : b < nb B) (σ0 : St)
    (hQ : ∀ σ, CF (cLr 279) σ0 σ → RowR σ 279 (advB B P b w h N row) → Q (some (.int (nI (sumf 8 (advB B P b w h N row))))) ρ σ) :
    ∀ (n k : Nat) (σ : St) (L : Value), k + n = N → CF (cLr 279) σ0 σ → CRd ρ σ q B → CPl σ m B P → σ.1 32 0 = nI h → RowR σ 279 (advB B P b w h k row) →
    Ev l X (d + 6) 12 19 [.ref 267, .ref m, .int (nI b), .int (nI w), .int (nI N), .int (nI k), L] [] 402 402 402 ρ σ Q := by
  intro n
  induction n with
  | zero =>
    intro k σ L hk hs hR hc hhr hrow
    have hρ := hR.1
    have hk : k = N := by omega
    subst hk
    refine Ev_iload rfl rfl ?_
    refine Ev_iload rfl rfl ?_
    refine Ev_icmp_ge rfl (fun h23 => ?_) (fun h23 => absurd (nI_le (Nat.le_refl _) (by omega)) h23)
    refine Ev_aload rfl rfl rfl ?_
    refine Ev_getR rfl (by first | rfl | assumption) (hρ _ _ _ rfl) ?_
    refine Ev_callS rfl rfl rfl rfl (same_n 402) (t_sumOf _ row279 hrow) ?_
    rintro v72 ρ72 σ72 ⟨rfl, e72, g72⟩
    obtain rfl := e72.symm
    obtain rfl := g72.symm
    exact Ev_ireturn rfl rfl rfl rfl (hQ σ hs hrow)
  | succ n ih =>
    intro k σ L hk hs hR hc hhr hrow
    have hρ := hR.1
    refine Ev_iload rfl rfl ?_
    refine Ev_iload rfl rfl ?_
    refine Ev_icmp_ge rfl (fun h23 => absurd h23 (nI_ge (by omega) (by omega))) (fun h23 => ?_)
    refine Ev_aload rfl rfl rfl ?_
    refine Ev_getR rfl (by first | rfl | assumption) (hρ _ _ _ rfl) ?_
    refine Ev_getI rfl (by first | rfl | assumption) ?_
    refine Ev_norm hhr ?_
    refine Ev_iload rfl rfl ?_
    refine Ev_iadd rfl ?_
    refine Ev_norm (nI_add h k) ?_
    refine Ev_istore rfl ?_
    refine Ev_aload rfl rfl rfl ?_
    refine Ev_getR rfl (by first | rfl | assumption) (hρ _ _ _ rfl) ?_
    refine Ev_aload rfl rfl rfl ?_
    refine Ev_getR rfl (by first | rfl | assumption) (hρ _ _ _ rfl) ?_
    refine Ev_iload rfl rfl ?_
    refine Ev_iload rfl rfl ?_
    refine Ev_iload rfl rfl ?_
    refine Ev_aload rfl rfl rfl ?_
    refine Ev_iload rfl rfl ?_
    refine Ev_iload rfl rfl ?_
    refine Ev_callV rfl rfl rfl (by rcases hm with rfl | rfl <;> rfl) rfl (same_n 402) (t_plannedFor _ hρ hm hW hP hc (by omega) hb) ?_
    rintro v54 ρ54 σ54 ⟨rfl, e54, g54⟩
    obtain rfl := e54.symm
    obtain rfl := g54.symm
    refine Ev_const rfl ?_
    refine Ev_callV rfl rfl rfl rfl rfl (same_n 402) (t_passA _ hR hW hWt hWf row279 hrow (advB_w hP h8 k) hw9 (by omega) hb (pfM_i hP)) ?_
    rintro v58 ρ58 σ58 ⟨⟨x58, rfl⟩, e58, s58, r58⟩
    obtain rfl := e58.symm
    refine Ev_pop rfl (fun _ q => nomatch q) ?_
    refine Ev_iincE rfl rfl (nI_1 k) ?_
    refine Ev_goto rfl ?_
    refine ih (k + 1) σ58 _ (by omega) (hs.tr s58) (hR.cr row279 s58) (hc.cf s58 (fun j => cLr_f (by omega) (by omega)) (fun j => cLr_f (by omega) (by omega)) (fun j => cLr_f (by omega) (by omega))) (by rw [s58.1 32 _ rfl]; exact hhr) r58
theorem t_runRow (d : Nat) {σ : St} {m b w h n : Nat} {S : Str} {P : Nat → Nat} (hR : CRd ρ σ q B) (hW : WfN B) (hWt : WfT B) (hWf : WfF B) (hm : m = 32 ∨ m = 268) (hP : WfP B P) (hc : CPl σ m B P) (hS : CStr σ S) (hSw : WfS B S) (hhr : σ.1 32 0 = nI h) (hw9 : w ≤ 9) (hh : h + n ≤ 2000) (hb : b < nb B) :
    T l X (d + 6) 12 [.ref 267, .ref m, .int (nI b), .int (nI w), .int (nI n)] 402 402 ρ σ (fun v ρ' σ' => v = some (.int (nI (sumf 8 (advB B P b w h n (S b))))) ∧ ρ' = ρ ∧ CF (cLr 279) σ σ' ∧ RowR σ' 279 (advB B P b w h n (S b))) := by
  have hρ := hR.1
  have n6 := hW.2.1
  refine T_of rfl ?_
  refine Ev_aload rfl rfl rfl ?_
  refine Ev_getR rfl (by first | rfl | assumption) (hρ _ _ _ rfl) ?_
  refine Ev_getR rfl (by first | rfl | assumption) (hρ _ _ _ rfl) ?_
  refine Ev_iload rfl rfl ?_
  refine Ev_aald (t := 4) rfl (Or.inl rfl) (by first | rfl | assumption) (vp_in_nI (n := b) (show b < 6 by omega) (by decide)) (by rw [nI_clamp (by omega)]; exact rf33 hρ (by omega) : _ = some (34 + b)) ?_
  refine Ev_aload rfl rfl rfl ?_
  refine Ev_getR rfl (by first | rfl | assumption) (hρ _ _ _ rfl) ?_
  refine Ev_callS rfl rfl rfl rfl (same_n 402) (t_copyRow _ (rowN (show b < 6 by omega)).1 rfl (rowN (show b < 6 by omega)).2.1 rfl (by decide)) ?_
  rintro v13 ρ13 σ13 ⟨rfl, e13, f, hf, f1, f2⟩
  obtain rfl := e13.symm
  subst hf
  refine Ev_const rfl ?_
  refine Ev_istore rfl ?_
  have s1 : CF (cLr 279) σ (sI σ 279 f) := CF.cell σ f (fun j => cLr_self 279 j)
  exact rr_loop hW hWt hWf hm hP (hSw.row b) hw9 hh hb σ (fun σ' a c => ⟨rfl, rfl, a, c⟩) n 0 _ _ (by omega) s1 (hR.cr row279 s1) (hc.cf s1 (fun j => cLr_f (by omega) (by omega)) (fun j => cLr_f (by omega) (by omega)) (fun j => cLr_f (by omega) (by omega))) (by rw [s1.1 32 _ rfl]; exact hhr) (fun i hi => by rw [sR_0, f1 i hi]; exact hS b (by omega) i hi)
theorem cR_X {k j : Nat} (h : cX k j = false) : cLr 279 k j = false := by
  unfold cLr
  rw [cL_X h]
  apply nbeq
  intro z
  subst z
  cases h
/-- where the wits of a bather stand -/
theorem ev_wit {σ : St} (hR : CRd ρ σ q B) {b : Nat} (hb : b < nb B) : σ.1 (q + 7) b = nI (wit B b) := (hR.2.2.2.2.1.2 b hb).2
theorem t_strengthBehind (d : Nat) {σ : St} {b i h n : Nat} {S : Str} {P : Nat → Nat} (hR : CRd ρ σ q B) (hW : WfN B) (hWt : WfT B) (hWf : WfF B) (hP : WfP B P) (hc : CPl σ 32 B P) (hS : CStr σ S) (hSw : WfS B S) (hhr : σ.1 32 0 = nI h) (hh : h + n ≤ 2000) (hb : b < nb B) (hi : i < ni B) :
    T l X (d + 7) 13 [.ref 267, .int (nI b), .int (nI i), .int (nI n)] 402 402 ρ σ (fun v ρ' σ' => v = some (.int (nI (advB B P b (wit B b) h n (S b) i))) ∧ ρ' = ρ ∧ CF (cLr 279) σ σ') := by
  have hρ := hR.1
  have n6 := hW.2.1
  have n8 := hW.1
  refine T_of rfl ?_
  refine Ev_aload rfl rfl rfl ?_
  refine Ev_aload rfl rfl rfl ?_
  refine Ev_getR rfl (by first | rfl | assumption) (hρ _ _ _ rfl) ?_
  refine Ev_iload rfl rfl ?_
  refine Ev_aload rfl rfl rfl ?_
  refine Ev_getR rfl (by first | rfl | assumption) (hρ _ _ _ rfl) ?_
  refine Ev_getR rfl (by first | rfl | assumption) hR.2.2.1 ?_
  refine Ev_getR rfl (by rcases hR.2.1 with rfl | rfl <;> rfl) (by rcases hR.2.1 with rfl | rfl <;> exact hρ _ _ _ rfl : _ = some (q + 7)) ?_
  refine Ev_iload rfl rfl ?_
  refine Ev_iald rfl (by rcases hR.2.1 with rfl | rfl <;> rfl) (by rcases hR.2.1 with rfl | rfl <;> exact vp_in_nI (n := b) (show b < 6 by omega) (by decide)) ?_
  refine Ev_norm (by rw [nI_clamp (by omega)]; exact ev_wit hR hb : _ = nI (wit B b)) ?_
  refine Ev_iload rfl rfl ?_
  refine Ev_callV rfl rfl rfl rfl rfl (same_n 402) (t_runRow _ hR hW hWt hWf (Or.inl rfl) hP hc hS hSw hhr (hWt.2.1 b hb).2 hh hb) ?_
  rintro v19 ρ19 σ19 ⟨rfl, e19, s19, r19⟩
  obtain rfl := e19.symm
  refine Ev_pop rfl (fun _ q => nomatch q) ?_
  refine Ev_aload rfl rfl rfl ?_
  refine Ev_getR rfl (by first | rfl | assumption) (hρ _ _ _ rfl) ?_
  refine Ev_iload rfl rfl ?_
  refine Ev_iald rfl (by first | rfl | assumption) (vp_in_nI (n := i) (show i < 8 by omega) (by decide)) ?_
  refine Ev_norm (by rw [nI_clamp (by omega)]; exact r19 i (by omega) : _ = nI (advB B P b (wit B b) h n (S b) i)) ?_
  exact Ev_ireturn rfl rfl rfl rfl ⟨rfl, rfl, s19⟩
theorem op_later (a b c : Int32) : OpI l X InvA 120 231 [.int a, .int b, .int c] := by
  refine op_of (fun A q ρ σ hA hC hρ => ?_)
  have hW := hA.1.1
  have hWt := hA.1.2.1
  have hWf := hA.1.2.2.1
  have n8 := hW.1
  have n6 := hW.2.1
  have nh := hA.2.1.1
  have hSw := hA.2.1.2.1
  have hPw := hA.2.1.2.2.1
  have hle : ∀ b i, (aN A).2.1 b i ≤ 99 := fun b i => (hSw b i).1
  have hCS : CStr σ (aN A).2.1 := fun b hb i hi => rf_str hC hb hi
  have hhr := hC.2.2.2.1.1
  by_cases h : ((hasF (nb (aB A)) a && hasF (ni (aB A)) b) && cmF (aN A).1 c 0 60) = true
  · obtain ⟨hab, hcm⟩ := Bool.and_eq_true_iff.mp h
    obtain ⟨ha, hb⟩ := Bool.and_eq_true_iff.mp hab
    obtain ⟨x, hx, rfl⟩ := hasF_of ha
    obtain ⟨y, hy, rfl⟩ := hasF_of hb
    obtain ⟨n, -, hn, hn9, rfl⟩ := cmF_of (by decide) hcm
    refine ⟨nI (advB (aB A) (aN A).2.2.1 x (wit (aB A) x) (aN A).1 n ((aN A).2.1 x) y), A, hA, ?_, fun ρ σ hM => ?_⟩
    · refine T_of rfl ?_
      refine Ev_aload rfl rfl rfl ?_
      refine Ev_iload rfl rfl ?_
      refine Ev_iload rfl rfl ?_
      refine Ev_callV rfl rfl rfl rfl rfl (same_n 402) (t_hasBoth _ _ _ hC.1.1 hC.2.1 hW) ?_
      rintro v3 ρ3 σ3 ⟨rfl, e3, g3⟩
      obtain rfl := e3.symm
      obtain rfl := g3.symm
      refine Ev_if_eq rfl (fun h6 => absurd h6 (by rw [hab]; decide)) (fun h6 => ?_)
      refine Ev_aload rfl rfl rfl ?_
      refine Ev_iload rfl rfl ?_
      refine Ev_const rfl ?_
      refine Ev_const rfl ?_
      refine Ev_callV rfl rfl rfl rfl rfl (same_n 402) (t_comes _ _ (lo := 0) (hi := 60) hρ hhr (by omega) (by decide) (by decide)) ?_
      rintro v14 ρ14 σ14 ⟨rfl, e14, g14⟩
      obtain rfl := e14.symm
      obtain rfl := g14.symm
      refine Ev_if_ne rfl (fun h17 => ?_) (fun h17 => absurd (by rw [hcm]; decide) h17)
      refine Ev_aload rfl rfl rfl ?_
      refine Ev_getR rfl (by first | rfl | assumption) (hρ _ _ _ rfl) ?_
      refine Ev_iload rfl rfl ?_
      refine Ev_iload rfl rfl ?_
      refine Ev_iload rfl rfl ?_
      refine Ev_callV rfl rfl rfl rfl rfl (same_n 402) (t_strengthBehind _ hC.2.1 hW hWt hWf hPw hC.2.2.2.1.2.2.1 hCS hSw hhr (by omega) hx hy) ?_
      rintro v29 ρ29 σ29 ⟨rfl, e29, s29⟩
      obtain rfl := e29.symm
      exact Ev_ireturn rfl rfl rfl rfl ⟨rfl, hC.pure (s29.wk (fun _ _ h => cR_X h))⟩
    · have hρ := hM.1
      refine T_of rfl ?_
      refine Ev_aload rfl rfl rfl ?_
      refine Ev_iload rfl rfl ?_
      refine Ev_callV rfl rfl rfl rfl rfl (same_n 402) (m_isBather _ hρ hM.2.1.1 hW _) ?_
      rintro v2 ρ2 σ2 ⟨rfl, e2, g2⟩
      obtain rfl := e2.symm
      obtain rfl := g2.symm
      refine Ev_if_eq rfl (fun h5 => absurd h5 (by rw [← hasF_eq, ha]; decide)) (fun h5 => ?_)
      refine Ev_aload rfl rfl rfl ?_
      refine Ev_iload rfl rfl ?_
      refine Ev_i2l rfl ?_
      refine Ev_callV rfl rfl rfl rfl rfl (same_n 402) (m_isIdea _ hρ hM.2.1.1 hW _) ?_
      rintro v11 ρ11 σ11 ⟨rfl, e11, g11⟩
      obtain rfl := e11.symm
      obtain rfl := g11.symm
      refine Ev_if_eq rfl (fun h14 => absurd h14 (by rw [l_of, ← hasF_eq, hb]; decide)) (fun h14 => ?_)
      refine Ev_aload rfl rfl rfl ?_
      refine Ev_iload rfl rfl ?_
      refine Ev_const rfl ?_
      refine Ev_const rfl ?_
      refine Ev_callV rfl rfl rfl rfl rfl (same_n 402) (m_isAhead _ _ (lo := 0) (hi := 60) hρ hM.2.2.2.1.1 (by omega) (by decide) (by decide)) ?_
      rintro v22 ρ22 σ22 ⟨rfl, e22, g22⟩
      obtain rfl := e22.symm
      obtain rfl := g22.symm
      refine Ev_if_ne rfl (fun h25 => ?_) (fun h25 => absurd (by rw [hcm]; decide) h25)
      refine Ev_aload rfl rfl rfl ?_
      refine Ev_callV rfl rfl rfl rfl rfl (same_n 402) (m_thinks _ hM hW) ?_
      rintro v31 ρ31 σ31 ⟨rfl, e31, t31⟩
      obtain rfl := e31.symm
      refine Ev_aload rfl rfl rfl ?_
      refine Ev_iload rfl rfl ?_
      refine Ev_callV rfl rfl rfl rfl rfl (same_n 402) (m_thHours _ hρ t31 hW hWt hWf hSw hPw (wf9 hA) (by omega)) ?_
      rintro v36 ρ36 σ36 ⟨rfl, e36, t36⟩
      obtain rfl := e36.symm
      refine Ev_aload rfl rfl rfl ?_
      refine Ev_iload rfl rfl ?_
      refine Ev_iload rfl rfl ?_
      refine Ev_callV rfl rfl rfl rfl rfl (same_n 402) (m_strengthOf _ hρ t36.2.1.2.2.1 (by omega) (by omega)) ?_
      rintro v42 ρ42 σ42 ⟨rfl, e42, g42⟩
      obtain rfl := e42.symm
      obtain rfl := g42.symm
      refine Ev_norm (by rw [adS_row hx] : _ = nI (advB (aB A) (aN A).2.2.1 x (wit (aB A) x) (aN A).1 n ((aN A).2.1 x) y)) ?_
      refine Ev_istore rfl ?_
      refine Ev_aload rfl rfl rfl ?_
      refine Ev_callV rfl rfl rfl rfl rfl (same_n 402) (m_thBack _ hM t36) ?_
      rintro v48 ρ48 σ48 ⟨rfl, e48, f48, -⟩
      obtain rfl := e48.symm
      refine Ev_iload rfl rfl ?_
      exact Ev_ireturn rfl rfl rfl rfl ⟨rfl, rfl, hM.pure f48⟩
  · refine ⟨-1, A, hA, ?_, fun ρ σ hM => ?_⟩
    · refine T_of rfl ?_
      refine Ev_aload rfl rfl rfl ?_
      refine Ev_iload rfl rfl ?_
      refine Ev_iload rfl rfl ?_
      refine Ev_callV rfl rfl rfl rfl rfl (same_n 402) (t_hasBoth _ _ _ hC.1.1 hC.2.1 hW) ?_
      rintro v3 ρ3 σ3 ⟨rfl, e3, g3⟩
      obtain rfl := e3.symm
      obtain rfl := g3.symm
      refine Ev_if_eq rfl (fun h6 => ?_) (fun h6 => ?_)
      · refine Ev_const rfl ?_
        exact Ev_ireturn rfl rfl rfl rfl ⟨rfl, hC.same⟩
      · refine Ev_aload rfl rfl rfl ?_
        refine Ev_iload rfl rfl ?_
        refine Ev_const rfl ?_
        refine Ev_const rfl ?_
        refine Ev_callV rfl rfl rfl rfl rfl (same_n 402) (t_comes _ _ (lo := 0) (hi := 60) hρ hhr (by omega) (by decide) (by decide)) ?_
        rintro v14 ρ14 σ14 ⟨rfl, e14, g14⟩
        obtain rfl := e14.symm
        obtain rfl := g14.symm
        refine Ev_if_ne rfl (fun h17 => absurd (Bool.and_eq_true_iff.mpr ⟨rt_of h6, rt_of h17⟩) h) (fun h17 => ?_)
        refine Ev_const rfl ?_
        exact Ev_ireturn rfl rfl rfl rfl ⟨rfl, hC.same⟩
    · have hρ := hM.1
      refine T_of rfl ?_
      refine Ev_aload rfl rfl rfl ?_
      refine Ev_iload rfl rfl ?_
      refine Ev_callV rfl rfl rfl rfl rfl (same_n 402) (m_isBather _ hρ hM.2.1.1 hW _) ?_
      rintro v2 ρ2 σ2 ⟨rfl, e2, g2⟩
      obtain rfl := e2.symm
      obtain rfl := g2.symm
      refine Ev_if_eq rfl (fun h5 => ?_) (fun h5 => ?_)
      · refine Ev_const rfl ?_
        exact Ev_ireturn rfl rfl rfl rfl ⟨rfl, rfl, hM.same⟩
      · refine Ev_aload rfl rfl rfl ?_
        refine Ev_iload rfl rfl ?_
        refine Ev_i2l rfl ?_
        refine Ev_callV rfl rfl rfl rfl rfl (same_n 402) (m_isIdea _ hρ hM.2.1.1 hW _) ?_
        rintro v11 ρ11 σ11 ⟨rfl, e11, g11⟩
        obtain rfl := e11.symm
        obtain rfl := g11.symm
        refine Ev_if_eq rfl (fun h14 => ?_) (fun h14 => ?_)
        · refine Ev_const rfl ?_
          exact Ev_ireturn rfl rfl rfl rfl ⟨rfl, rfl, hM.same⟩
        · refine Ev_aload rfl rfl rfl ?_
          refine Ev_iload rfl rfl ?_
          refine Ev_const rfl ?_
          refine Ev_const rfl ?_
          refine Ev_callV rfl rfl rfl rfl rfl (same_n 402) (m_isAhead _ _ (lo := 0) (hi := 60) hρ hM.2.2.2.1.1 (by omega) (by decide) (by decide)) ?_
          rintro v22 ρ22 σ22 ⟨rfl, e22, g22⟩
          obtain rfl := e22.symm
          obtain rfl := g22.symm
          refine Ev_if_ne rfl (fun h25 => absurd (Bool.and_eq_true_iff.mpr ⟨Bool.and_eq_true_iff.mpr ⟨rt_of h5, by have := rt_of h14; rwa [l_of] at this⟩, rt_of h25⟩) h) (fun h25 => ?_)
          refine Ev_const rfl ?_
          exact Ev_ireturn rfl rfl rfl rfl ⟨rfl, rfl, hM.same⟩
end S67
