/-! A change: the reference; the call. -/
def fCh (j : Nat) : Bool := Nat.beq j 64 || Nat.beq j 65 || Nat.beq j 66
theorem fCh_Ti {j : Nat} (h : fTi j = false) : fCh j = false := by
  have h := scF_Ti h
  unfold scF at h
  simp only [Bool.not_eq_false', Bool.or_eq_true] at h
  rcases h with (((((((h | h) | h) | h) | h) | h) | h) | h) | h <;> (rw [Nat.eq_of_beq_eq_true h]; rfl)
/-- the change found so far -/
def ChM (σ : St) : Int32 × Int32 × Int32 := (σ.1 326 64, σ.1 326 65, σ.1 326 66)
theorem ChM_eq {σ σ' : St} (h : ∀ j, fCh j = true → σ'.1 326 j = σ.1 326 j) : ChM σ' = ChM σ := by
  unfold ChM
  rw [h _ rfl, h _ rfl, h _ rfl]
theorem fCh_fH {j : Nat} (h : fCh j = true) : fH j = false := by
  unfold fCh at h
  simp only [Bool.or_eq_true] at h
  rcases h with (h | h) | h <;> (rw [Nat.eq_of_beq_eq_true h]; rfl)
/-- two rows of the plan taken for one another, in the cells -/
def exF (f : Nat → Int32) (i j : Nat) : Nat → Int32 := upd (upd f i (f j)) j (f i)
theorem exF_o {f : Nat → Int32} {i j x : Nat} (h1 : x ≠ i) (h2 : x ≠ j) : exF f i j x = f x := by unfold exF; rw [pk_un h2, pk_un h1]
theorem exF_j {f : Nat → Int32} {i j : Nat} : exF f i j j = f i := by unfold exF; rw [pk_us]
theorem exF_i {f : Nat → Int32} {i j : Nat} (h : i ≠ j) : exF f i j i = f j := by unfold exF; rw [pk_un h, pk_us]
theorem ex_pl {f : Nat → Int32} {P : Nat → Nat} {a b R : Nat} (hab : a ≠ b) (ha : a < R) (hb : b < R) (hf : ∀ x, x < 2 * R → f (49 + x) = nI (P x)) (x : Nat) (hx : x < 2 * R) : exF (exF f (49 + 2 * a + 0) (49 + 2 * b + 0)) (49 + 2 * a + 1) (49 + 2 * b + 1) (49 + x) = nI (xgP P a b x) := by
  have e : ∀ y z, y < 2 * R → 49 + y = z → f z = nI (P y) := fun y z hy hz => by rw [← hz]; exact hf y hy
  by_cases h1 : x = 2 * b + 1
  · subst h1
    rw [(xgP_1 P a b).2, show 49 + (2 * b + 1) = 49 + 2 * b + 1 by omega, exF_j, exF_o (by omega) (by omega)]
    exact e _ _ (by omega) (by omega)
  · by_cases h2 : x = 2 * a + 1
    · subst h2
      rw [(xgP_0 P a b).2, show 49 + (2 * a + 1) = 49 + 2 * a + 1 by omega, exF_i (by omega), exF_o (by omega) (by omega)]
      exact e _ _ (by omega) (by omega)
    · rw [exF_o (by omega) (by omega)]
      by_cases h3 : x = 2 * b
      · subst h3
        rw [(xgP_1 P a b).1, show 49 + 2 * b = 49 + 2 * b + 0 by omega, exF_j]
        exact e _ _ (by omega) (by omega)
      · by_cases h4 : x = 2 * a
        · subst h4
          rw [(xgP_0 P a b).1, show 49 + 2 * a = 49 + 2 * a + 0 by omega, exF_i (by omega)]
          exact e _ _ (by omega) (by omega)
        · rw [exF_o (by omega) (by omega), hf x hx]
          unfold xgP
          rw [if_neg h4, if_neg h2, if_neg h3, if_neg h1]
section S88c
variable {l : Launch} {X : Cx} {ρ : Rf}
theorem m_thHoursF (d : Nat) {σ0 σ : St} {B : Bh} {S : Str} {W : Nat → Nat} {h n : Nat} {P : Nat → Nat} (hρ : RF ρ) (H : MTh σ0 B S W h P σ) (hW : WfN B) (hWt : WfT B) (hWf : WfF B) (hS : WfS B S) (hP : WfP B P) (hWb : ∀ b, W b ≤ 9) (hh : h + n ≤ 2000) :
    T l X (d + 8) 213 [.ref 326, .int (nI n)] 402 402 ρ σ (fun v ρ' σ' => v = none ∧ ρ' = ρ ∧ MTh σ0 B (adS B P W h n S) W (h + n) P σ' ∧ ∀ j, fH j = false → σ'.1 326 j = σ.1 326 j) := by
  refine (m_hoursGo _ (th := true) (K := (0, fun _ => 0)) hρ H.2.1 H.2.2.2.2.2.2 hW hWt hWf hS hP H.2.2.1 hWb hh (mkp_th H _)).mono (fun v ρ' σ' hq => ?_)
  obtain ⟨rfl, rfl, hq⟩ := hq
  exact ⟨rfl, rfl, H.hh hW hq, hq.1.2.2⟩
theorem m_thAnewF (d : Nat) {σ0 σ : St} {A : Ab} {S : Str} {W : Nat → Nat} {h : Nat} {P : Nat → Nat} (hM : RM ρ σ0 A) (hW : WfN (aB A)) (H : MTh σ0 (aB A) S W h P σ) : T l X (d + 1) 215 [.ref 326] 402 402 ρ σ (fun v ρ' σ' => v = none ∧ ρ' = ρ ∧ MTh σ0 (aB A) (aN A).2.1 W (aN A).1 (aN A).2.2.1 σ' ∧ (∀ q, q ≠ 365 → σ'.1 q = σ.1 q) ∧ σ'.2 = σ.2) := by
  refine (m_triesAnew _ hM.1).mono (fun v ρ' σ' hq => ?_)
  obtain ⟨rfl, rfl, f, rfl, hf⟩ := hq
  obtain ⟨h1, h2, h3, h4, h5, h6, h7⟩ := H
  have n16 := hW.2.2.2.1
  have e : f = σ0.1 365 := by
    funext j
    rw [hf j]
    by_cases hj : j < 81
    · rw [if_pos hj, h6 j hj]
    · rw [if_neg hj, h5 j (by omega)]
  subst e
  have hs : MF (fun q => Nat.beq q 365) cN0 σ (sI σ 365 (σ0.1 365)) := MF.cell _ (by decide) rfl
  have hs2 : MF cTi fTi σ (sI σ 365 (σ0.1 365)) := MF.cell _ (by decide) rfl
  exact ⟨rfl, rfl, ⟨h1.tr hs2, h2.mfn hs rfl rfl (fun b i hb hi => by rw [sR_0]; exact hM.2.2.2.1.2.1 b i hb hi) (by rw [sR_0]; exact hM.2.2.2.1.1), fun j hj => by rw [sR_0]; exact hM.pl j hj, by rw [sR_1 _ _ (by decide)]; exact h4, fun j _ => by rw [sR_0], fun j hj => by rw [sR_1 _ _ (by decide)]; exact h6 j hj, h7.ti hs2⟩, fun q hq => sR_1 _ _ hq, rfl⟩
theorem m_thBackF (d : Nat) {σ0 σ : St} {A : Ab} {S : Str} {W : Nat → Nat} {h : Nat} {P : Nat → Nat} (hM : RM ρ σ0 A) (H : MTh σ0 (aB A) S W h P σ) : T l X (d + 2) 216 [.ref 326] 402 402 ρ σ (fun v ρ' σ' => v = none ∧ ρ' = ρ ∧ MF scC scF σ0 σ' ∧ (∀ q, q ≠ 326 → q ≠ 365 → σ'.1 q = σ.1 q) ∧ ∀ j, j ≠ 60 → j ≠ 53 → σ'.1 326 j = σ.1 326 j) := by
  refine (m_takesBack _ hM.1).mono (fun v ρ' σ' hq => ?_)
  obtain ⟨rfl, rfl, f, rfl, hf⟩ := hq
  obtain ⟨h1, h2, h3, h4, h5, h6, h7⟩ := H
  have e : f = σ0.1 365 := by
    funext j
    rw [hf j]
    by_cases hj : j < 81
    · rw [if_pos hj, h6 j hj]
    · rw [if_neg hj, h5 j (by omega)]
  subst e
  refine ⟨rfl, rfl, ⟨fun q hq hc => ?_, fun q hq => h1.2.1 q hq, fun j hj => ?_⟩, fun q q1 q2 => by rw [sR_1 _ _ q1, sR_1 _ _ q2], fun j j1 j2 => by rw [sR_0, pk_un j1, pk_un j2]⟩
  · rw [sR_1 _ _ hq]
    by_cases hn : q = 365
    · subst hn; rw [sR_0]
    · rw [sR_1 _ _ hn]
      exact h1.1 q hq (by unfold cTi; rw [hc, nbeq hn]; rfl)
  · rw [sR_0]
    by_cases j1 : j = 60
    · subst j1; rw [pk_us]; exact hM.2.2.1.2.symm
    · rw [pk_un j1]
      by_cases j2 : j = 53
      · subst j2; rw [pk_us]; exact hM.2.2.1.1.symm
      · rw [pk_un j2]
        exact h1.2.2 j (by unfold fTi; rw [hj, nbeq j1, nbeq j2]; rfl)
theorem m_thinksF (d : Nat) {σ : St} {A : Ab} (hM : RM ρ σ A) (hW : WfN (aB A)) : T l X (d + 1) 214 [.ref 326] 402 402 ρ σ (fun v ρ' σ' => v = none ∧ ρ' = ρ ∧ MTh σ (aB A) (aN A).2.1 (wit (aB A)) (aN A).1 (aN A).2.2.1 σ' ∧ ∀ j, j ≠ 60 → σ'.1 326 j = σ.1 326 j) := by
  refine (m_putsAside _ hM.1).mono (fun v ρ' σ' hq => ?_)
  obtain ⟨rfl, rfl, f, rfl, hf⟩ := hq
  have hs : MF (fun q => Nat.beq q 366) (fun j => Nat.beq j 60) σ (sI (sI σ 326 (upd (σ.1 326) 60 1)) 366 f) := (MF.put _ rfl).tr (MF.cell f (by decide) rfl)
  have hs2 : MF cTi fTi σ (sI (sI σ 326 (upd (σ.1 326) 60 1)) 366 f) := (MF.put _ rfl).tr (MF.cell f (by decide) rfl)
  refine ⟨rfl, rfl, ⟨hs2, (hM.rd hW).mf hs rfl rfl, fun j hj => by rw [hs.1 365 (by decide) rfl]; exact hM.pl j hj, by rw [sR_1 _ _ (by decide), sR_0, pk_us], fun j _ => by rw [hs.1 365 (by decide) rfl], fun j hj => by rw [sR_0]; exact hf j hj, hM.2.1.2.2.1.ti hs2⟩, fun j hj => by rw [sR_1 _ _ (by decide), sR_0, pk_un hj]⟩
theorem m_exchanges (d : Nat) {σ : St} {a b w : Nat} (hρ : RF ρ) (ha : a < 16) (hb : b < 16) (hw : w < 2) :
    T l X d 238 [.ref 326, .int (nI a), .int (nI b), .int (nI w)] 402 402 ρ σ (fun v ρ' σ' => v = none ∧ ρ' = ρ ∧ σ' = sI σ 365 (exF (σ.1 365) (49 + 2 * a + w) (49 + 2 * b + w))) := by
  refine T_of rfl ?_
  refine Ev_const rfl ?_
  refine Ev_const rfl ?_
  refine Ev_iload rfl rfl ?_
  refine Ev_imul rfl ?_
  refine Ev_norm (pk_mul 2 a) ?_
  refine Ev_iadd rfl ?_
  refine Ev_norm (nI_add 49 (2 * a)) ?_
  refine Ev_iload rfl rfl ?_
  refine Ev_iadd rfl ?_
  refine Ev_norm (nI_add (49 + 2 * a) w) ?_
  refine Ev_istore rfl ?_
  refine Ev_const rfl ?_
  refine Ev_const rfl ?_
  refine Ev_iload rfl rfl ?_
  refine Ev_imul rfl ?_
  refine Ev_norm (pk_mul 2 b) ?_
  refine Ev_iadd rfl ?_
  refine Ev_norm (nI_add 49 (2 * b)) ?_
  refine Ev_iload rfl rfl ?_
  refine Ev_iadd rfl ?_
  refine Ev_norm (nI_add (49 + 2 * b) w) ?_
  refine Ev_istore rfl ?_
  refine Ev_aload rfl rfl rfl ?_
  refine Ev_getR rfl (by first | rfl | assumption) (hρ _ _ _ rfl) ?_
  refine Ev_iload rfl rfl ?_
  refine Ev_iald rfl (by first | rfl | assumption) (vp_in_nI (n := 49 + 2 * a + w) (show 49 + 2 * a + w < 242 by omega) (by decide)) ?_
  refine Ev_norm (by rw [nI_clamp (by omega)] : _ = σ.1 365 (49 + 2 * a + w)) ?_
  refine Ev_istore rfl ?_
  refine Ev_aload rfl rfl rfl ?_
  refine Ev_getR rfl (by first | rfl | assumption) (hρ _ _ _ rfl) ?_
  refine Ev_iload rfl rfl ?_
  refine Ev_aload rfl rfl rfl ?_
  refine Ev_getR rfl (by first | rfl | assumption) (hρ _ _ _ rfl) ?_
  refine Ev_iload rfl rfl ?_
  refine Ev_iald rfl (by first | rfl | assumption) (vp_in_nI (n := 49 + 2 * b + w) (show 49 + 2 * b + w < 242 by omega) (by decide)) ?_
  refine Ev_norm (by rw [nI_clamp (by omega)] : _ = σ.1 365 (49 + 2 * b + w)) ?_
  refine Ev_iast rfl (by first | rfl | assumption) (vp_in_nI (n := 49 + 2 * a + w) (show 49 + 2 * a + w < 242 by omega) (by decide)) ?_
  rw [nI_clamp (show 49 + 2 * a + w < 2 ^ 31 by omega)]
  refine Ev_aload rfl rfl rfl ?_
  refine Ev_getR rfl (by first | rfl | assumption) (hρ _ _ _ rfl) ?_
  refine Ev_iload rfl rfl ?_
  refine Ev_iload rfl rfl ?_
  refine Ev_iast rfl (by first | rfl | assumption) (vp_in_nI (n := 49 + 2 * b + w) (show 49 + 2 * b + w < 242 by omega) (by decide)) ?_
  rw [nI_clamp (show 49 + 2 * b + w < 2 ^ 31 by omega), sI_sI, sR_0]
  exact Ev_return rfl rfl rfl ⟨rfl, rfl, rfl⟩
/-- behind the exchange: hours, the sum, as it was -/
theorem mt_tail {d n : Nat} {A : Ab} {σ0 σ : St} {P : Nat → Nat} {x1 x2 : Int32} {w4 : Value} (hM : RM ρ σ0 A) (hA : WfA A) (hP : WfP (aB A) P) (hn : (aN A).1 + n ≤ 1999) (H : MTh σ0 (aB A) (aN A).2.1 (wit (aB A)) (aN A).1 P σ) :
    Ev l X (d + 9) 239 28 [.ref 326, .int x1, .int x2, .int (nI n), w4] [] 402 402 402 ρ σ (fun v ρ' σ' => v = none ∧ ρ' = ρ ∧ MTh σ0 (aB A) (aN A).2.1 (wit (aB A)) (aN A).1 (aN A).2.2.1 σ' ∧ ChM σ' = if (ChM σ).2.2 < nI (sTo (aB A) P (aN A).2.1 (wit (aB A)) (aN A).1 n) then (x1, x2, nI (sTo (aB A) P (aN A).2.1 (wit (aB A)) (aN A).1 n)) else ChM σ) := by
  have hW := hA.1.1
  have hWt := hA.1.2.1
  have hWf := hA.1.2.2.1
  have hSw := hA.2.1.2.1
  have hρ := hM.1
  have hS2 := adS_wf (W := wit (aB A)) (h := (aN A).1) hP hSw n
  refine Ev_aload rfl rfl rfl ?_
  refine Ev_iload rfl rfl ?_
  refine Ev_callV rfl rfl rfl rfl rfl (same_n 402) (m_thHoursF _ hρ H hW hWt hWf hSw hP (wf9 hA) (by omega)) ?_
  rintro v30 ρ30 σ30 ⟨rfl, e30, t30, f30⟩
  obtain rfl := e30.symm
  refine Ev_aload rfl rfl rfl ?_
  refine Ev_const rfl ?_
  refine Ev_const rfl ?_
  refine Ev_callV rfl rfl rfl rfl rfl (same_n 402) (m_strengthAll _ (o := 1) (n := 48) (g := fun k => adS (aB A) P (wit (aB A)) (aN A).1 n (aN A).2.1 (k / 8) (k % 8)) hρ (by decide) (fun k hk => by have := t30.2.1.2.2.1 (k / 8) (k % 8) (by omega) (by omega); rw [show 1 + 8 * (k / 8) + k % 8 = 1 + k by omega] at this; exact this)) ?_
  rintro v37 ρ37 σ37 ⟨rfl, e37, g37⟩
  obtain rfl := e37.symm
  obtain rfl := g37.symm
  refine Ev_norm (by rw [sAll_48 hW hS2, sTo_all] : _ = nI (sTo (aB A) P (aN A).2.1 (wit (aB A)) (aN A).1 n)) ?_
  refine Ev_istore rfl ?_
  refine Ev_aload rfl rfl rfl ?_
  refine Ev_callV rfl rfl rfl rfl rfl (same_n 402) (m_thAnewF _ hM hW t30) ?_
  rintro v43 ρ43 σ43 ⟨rfl, e43, t43, f43, -⟩
  obtain rfl := e43.symm
  have c43 : ChM σ43 = ChM σ := ChM_eq (fun j hj => by rw [f43 326 (by decide)]; exact f30 j (fCh_fH hj))
  refine Ev_iload rfl rfl ?_
  refine Ev_aload rfl rfl rfl ?_
  refine Ev_getI rfl (by first | rfl | assumption) ?_
  refine Ev_norm (congrArg (fun z => z.2.2) c43 : _ = (ChM σ).2.2) ?_
  refine Ev_icmp_gt rfl (fun h52 => ?_) (fun h52 => ?_)
  · refine Ev_aload rfl rfl rfl ?_
    refine Ev_iload rfl rfl ?_
    refine Ev_putI rfl (by first | rfl | assumption) ⟨rfl, rfl⟩ rfl ?_
    refine Ev_aload rfl rfl rfl ?_
    refine Ev_iload rfl rfl ?_
    refine Ev_putI rfl (by first | rfl | assumption) ⟨rfl, rfl⟩ rfl ?_
    refine Ev_aload rfl rfl rfl ?_
    refine Ev_iload rfl rfl ?_
    refine Ev_putI rfl (by first | rfl | assumption) ⟨rfl, rfl⟩ rfl ?_
    exact Ev_return rfl rfl rfl ⟨rfl, rfl, t43.sc (C := cN0) (Fd := fCh) (((MF.put _ rfl).tr (MF.put _ rfl)).tr (MF.put _ rfl)) rfl rfl rfl rfl (fun _ _ => rfl) (fun _ q => fCh_Ti q), by rw [if_pos h52]; rfl⟩
  · exact Ev_return rfl rfl rfl ⟨rfl, rfl, t43, by rw [if_neg h52]; exact c43⟩
theorem m_tryNone (d : Nat) {n : Nat} {A : Ab} {σ0 σ : St} (hM : RM ρ σ0 A) (hA : WfA A) (hn : (aN A).1 + n ≤ 1999) (H : MTh σ0 (aB A) (aN A).2.1 (wit (aB A)) (aN A).1 (aN A).2.2.1 σ) :
    T l X (d + 9) 239 [.ref 326, .int (-1), .int (-1), .int (nI n)] 402 402 ρ σ (fun v ρ' σ' => v = none ∧ ρ' = ρ ∧ MTh σ0 (aB A) (aN A).2.1 (wit (aB A)) (aN A).1 (aN A).2.2.1 σ' ∧ ChM σ' = if (ChM σ).2.2 < nI (sTo (aB A) (aN A).2.2.1 (aN A).2.1 (wit (aB A)) (aN A).1 n) then (-1, -1, nI (sTo (aB A) (aN A).2.2.1 (aN A).2.1 (wit (aB A)) (aN A).1 n)) else ChM σ) := by
  refine T_of rfl ?_
  refine Ev_const rfl ?_
  refine Ev_istore rfl ?_
  refine Ev_iload rfl rfl ?_
  refine Ev_const rfl ?_
  refine Ev_icmp_ge rfl (fun h6 => absurd h6 (by decide)) (fun h6 => ?_)
  refine Ev_iload rfl rfl ?_
  refine Ev_const rfl ?_
  refine Ev_icmp_eq rfl (fun h11 => ?_) (fun h11 => absurd rfl h11)
  exact mt_tail (d := d) hM hA hA.2.1.2.2.1 hn H
theorem m_tryPair (d : Nat) {n a b : Nat} {A : Ab} {σ0 σ : St} (hM : RM ρ σ0 A) (hA : WfA A) (hn : (aN A).1 + n ≤ 1999) (ha : a < np (aB A)) (hb : b < np (aB A)) (hab : a ≠ b) (H : MTh σ0 (aB A) (aN A).2.1 (wit (aB A)) (aN A).1 (aN A).2.2.1 σ) :
    T l X (d + 9) 239 [.ref 326, .int (nI a), .int (nI b), .int (nI n)] 402 402 ρ σ (fun v ρ' σ' => v = none ∧ ρ' = ρ ∧ MTh σ0 (aB A) (aN A).2.1 (wit (aB A)) (aN A).1 (aN A).2.2.1 σ' ∧ ChM σ' = if (ChM σ).2.2 < nI (sTo (aB A) (xgP (aN A).2.2.1 a b) (aN A).2.1 (wit (aB A)) (aN A).1 n) then (nI a, nI b, nI (sTo (aB A) (xgP (aN A).2.2.1 a b) (aN A).2.1 (wit (aB A)) (aN A).1 n)) else ChM σ) := by
  have hρ := hM.1
  have hW := hA.1.1
  have n16 := hW.2.2.2.1
  have na := nI_m1 (n := a) (by omega)
  have h9 : ¬ (2 : Int32) ≤ nI 1 := by decide
  have e2 : (2 : Int32) ≤ nI 2 := by decide
  refine T_of rfl ?_
  refine Ev_const rfl ?_
  refine Ev_istore rfl ?_
  refine Ev_iload rfl rfl ?_
  refine Ev_const rfl ?_
  refine Ev_icmp_ge rfl (fun h6 => absurd h6 (by decide)) (fun h6 => ?_)
  refine Ev_iload rfl rfl ?_
  refine Ev_const rfl ?_
  refine Ev_icmp_eq rfl (fun h11 => absurd h11 na) (fun h11 => ?_)
  refine Ev_aload rfl rfl rfl ?_
  refine Ev_iload rfl rfl ?_
  refine Ev_iload rfl rfl ?_
  refine Ev_iload rfl rfl ?_
  refine Ev_callV rfl rfl rfl rfl rfl (same_n 402) (m_exchanges _ (w := 0) hρ (by omega) (by omega) (by decide)) ?_
  rintro v19 ρ19 σ19 ⟨rfl, e19, hx1⟩
  obtain rfl := e19.symm
  subst hx1
  refine Ev_iincE rfl rfl (show (0 : Int32) + 1 = nI 1 from rfl) ?_
  refine Ev_goto rfl ?_
  refine Ev_iload rfl rfl ?_
  refine Ev_const rfl ?_
  refine Ev_icmp_ge rfl (fun h6 => absurd h6 h9) (fun h6 => ?_)
  refine Ev_iload rfl rfl ?_
  refine Ev_const rfl ?_
  refine Ev_icmp_eq rfl (fun h11 => absurd h11 na) (fun h11 => ?_)
  refine Ev_aload rfl rfl rfl ?_
  refine Ev_iload rfl rfl ?_
  refine Ev_iload rfl rfl ?_
  refine Ev_iload rfl rfl ?_
  refine Ev_callV rfl rfl rfl rfl rfl (same_n 402) (m_exchanges _ (w := 1) hρ (by omega) (by omega) (by decide)) ?_
  rintro v19 ρ19 σ19 ⟨rfl, e19, hx2⟩
  obtain rfl := e19.symm
  subst hx2
  refine Ev_iincE rfl rfl (show nI 1 + 1 = nI 2 from rfl) ?_
  refine Ev_goto rfl ?_
  refine Ev_iload rfl rfl ?_
  refine Ev_const rfl ?_
  refine Ev_icmp_ge rfl (fun h6 => ?_) (fun h6 => absurd e2 h6)
  rw [sI_sI, sR_0]
  have hS := mt_tail (l := l) (X := X) (d := d) (n := n) (x1 := nI a) (x2 := nI b) (w4 := .int (nI 2)) hM hA (xgP_wf hA.2.1.2.2.1 ha hb) hn (σ := sI σ 365 (exF (exF (σ.1 365) (49 + 2 * a + 0) (49 + 2 * b + 0)) (49 + 2 * a + 1) (49 + 2 * b + 1))) (by
    obtain ⟨h1, h2, h3, h4, h5, h6, h7⟩ := H
    have lo : ∀ x, x < 49 ∨ 81 ≤ x → exF (exF (σ.1 365) (49 + 2 * a + 0) (49 + 2 * b + 0)) (49 + 2 * a + 1) (49 + 2 * b + 1) x = σ.1 365 x := fun x hx => by rw [exF_o (by omega) (by omega), exF_o (by omega) (by omega)]
    have m1 : MF (fun q => Nat.beq q 365) cN0 σ (sI σ 365 (exF (exF (σ.1 365) (49 + 2 * a + 0) (49 + 2 * b + 0)) (49 + 2 * a + 1) (49 + 2 * b + 1))) := MF.cell _ (by decide) rfl
    have m2 : MF cTi fTi σ (sI σ 365 (exF (exF (σ.1 365) (49 + 2 * a + 0) (49 + 2 * b + 0)) (49 + 2 * a + 1) (49 + 2 * b + 1))) := MF.cell _ (by decide) rfl
    exact ⟨h1.tr m2, h2.mfn m1 rfl rfl (fun b' i hb' hi => by rw [sR_0, lo _ (by omega)]; exact h2.2.2.1 b' i hb' hi) (by rw [sR_0, lo _ (by omega)]; exact h2.2.2.2.2), fun x hx => by rw [sR_0]; exact ex_pl hab ha hb h3 x hx, by rw [sR_1 _ _ (by decide)]; exact h4, fun x hx => by rw [sR_0, lo _ (by omega)]; exact h5 x hx, fun x hx => by rw [sR_1 _ _ (by decide)]; exact h6 x hx, h7.ti m2⟩)
  exact hS
def chgN (r : Chg) : Int32 × Int32 × Int32 := (r.1, r.2.1, nI r.2.2)
theorem chgN_U {v : Nat} {a b : Int32} {r : Chg} (hv : v < 2 ^ 31) (hr : r.2.2 < 2 ^ 31) : (if (chgN r).2.2 < nI v then (a, b, nI v) else chgN r) = chgN (chU v a b r) := by
  show (if nI r.2.2 < nI v then _ else _) = _
  unfold chU
  by_cases h : r.2.2 < v
  · rw [if_pos h, if_pos (nI_lt h hv)]; rfl
  · rw [if_neg h, if_neg (fun z => h ((nI_ltI hr hv).mp z))]
theorem mch_in {d n a : Nat} {w2 : Int32} {A : Ab} {σ0 : St} {R : Chg} {Q : Po} (hM : RM ρ σ0 A) (hA : WfA A) (hn : (aN A).1 + n ≤ 1999) (ha : a < np (aB A))
    (hQ : ∀ σ, MTh σ0 (aB A) (aN A).2.1 (wit (aB A)) (aN A).1 (aN A).2.2.1 σ → ChM σ = chgN R → R.2.2 ≤ 4752 → Ev l X (d + 10) 240 79 [.ref 326, .int (nI n), .int w2, .int (nI a), .int (nI (np (aB A)))] [] 402 402 402 ρ σ Q) :
    ∀ (m b : Nat) (σ : St) (r : Chg), b + m = np (aB A) → a < b → MTh σ0 (aB A) (aN A).2.1 (wit (aB A)) (aN A).1 (aN A).2.2.1 σ → ChM σ = chgN r → r.2.2 ≤ 4752 → chI (fun j k => sTo (aB A) (xgP (aN A).2.2.1 j k) (aN A).2.1 (wit (aB A)) (aN A).1 n) a m b r = R →
    Ev l X (d + 10) 240 56 [.ref 326, .int (nI n), .int w2, .int (nI a), .int (nI b)] [] 402 402 402 ρ σ Q := by
  have hW := hA.1.1
  have n16 := hW.2.2.2.1
  have hρ := hM.1
  have hP := hA.2.1.2.2.1
  intro m
  induction m with
  | zero =>
    intro b σ r hb hab H hc hr he
    have hb : b = np (aB A) := by omega
    subst hb
    have he : r = R := he
    subst he
    refine Ev_iload rfl rfl ?_
    refine Ev_aload rfl rfl rfl ?_
    refine Ev_callV rfl rfl rfl rfl rfl (same_n 402) (m_planMany _ hρ H.2.1.1) ?_
    rintro v59 ρ59 σ59 ⟨rfl, e59, g59⟩
    obtain rfl := e59.symm
    obtain rfl := g59.symm
    refine Ev_icmp_ge rfl (fun h62 => ?_) (fun h62 => absurd (nI_le (Nat.le_refl _) (by omega)) h62)
    exact hQ σ H hc hr
  | succ m ih =>
    intro b σ r hb hab H hc hr he
    have b2 := sTo_le (W := wit (aB A)) (h := (aN A).1) (n := n) hW (xgP_wf (j := a) (k := b) hP ha (by omega)) hA.2.1.2.1
    have he : chI (fun j k => sTo (aB A) (xgP (aN A).2.2.1 j k) (aN A).2.1 (wit (aB A)) (aN A).1 n) a m (b + 1) (chU (sTo (aB A) (xgP (aN A).2.2.1 a b) (aN A).2.1 (wit (aB A)) (aN A).1 n) (nI a) (nI b) r) = R := he
    refine Ev_iload rfl rfl ?_
    refine Ev_aload rfl rfl rfl ?_
    refine Ev_callV rfl rfl rfl rfl rfl (same_n 402) (m_planMany _ hρ H.2.1.1) ?_
    rintro v59 ρ59 σ59 ⟨rfl, e59, g59⟩
    obtain rfl := e59.symm
    obtain rfl := g59.symm
    refine Ev_icmp_ge rfl (fun h62 => absurd h62 (nI_ge (by omega) (by omega))) (fun h62 => ?_)
    refine Ev_aload rfl rfl rfl ?_
    refine Ev_iload rfl rfl ?_
    refine Ev_iload rfl rfl ?_
    refine Ev_iload rfl rfl ?_
    refine Ev_callV rfl rfl rfl rfl rfl (same_n 402) (m_tryPair _ hM hA hn ha (by omega) (by omega) H) ?_
    rintro v70 ρ70 σ70 ⟨rfl, e70, t70, c70⟩
    obtain rfl := e70.symm
    refine Ev_iincE rfl rfl (nI_1 b) ?_
    refine Ev_goto rfl ?_
    rw [hc, chgN_U (by omega) (by omega)] at c70
    exact ih (b + 1) σ70 _ (by omega) (by omega) t70 c70 (by unfold chU; split <;> assumption) he
theorem mch_out {d n : Nat} {w2 : Int32} {A : Ab} {σ0 : St} {R : Chg} {Q : Po} (hM : RM ρ σ0 A) (hA : WfA A) (hn : (aN A).1 + n ≤ 1999)
    (hQ : ∀ σ a w, MTh σ0 (aB A) (aN A).2.1 (wit (aB A)) (aN A).1 (aN A).2.2.1 σ → ChM σ = chgN R → Ev l X (d + 10) 240 85 [.ref 326, .int (nI n), .int w2, .int a, w] [] 402 402 402 ρ σ Q) :
    ∀ (m a : Nat) (σ : St) (r : Chg) (w4 : Value), a + m = np (aB A) → MTh σ0 (aB A) (aN A).2.1 (wit (aB A)) (aN A).1 (aN A).2.2.1 σ → ChM σ = chgN r → r.2.2 ≤ 4752 → chO (fun j k => sTo (aB A) (xgP (aN A).2.2.1 j k) (aN A).2.1 (wit (aB A)) (aN A).1 n) (np (aB A)) m a r = R →
    Ev l X (d + 10) 240 43 [.ref 326, .int (nI n), .int w2, .int (nI a), w4] [] 402 402 402 ρ σ Q := by
  have hW := hA.1.1
  have n16 := hW.2.2.2.1
  have hρ := hM.1
  intro m
  induction m with
  | zero =>
    intro a σ r w4 ha H hc hr he
    have ha : a = np (aB A) := by omega
    subst ha
    have he : r = R := he
    subst he
    refine Ev_iload rfl rfl ?_
    refine Ev_aload rfl rfl rfl ?_
    refine Ev_callV rfl rfl rfl rfl rfl (same_n 402) (m_planMany _ hρ H.2.1.1) ?_
    rintro v45 ρ45 σ45 ⟨rfl, e45, g45⟩
    obtain rfl := e45.symm
    obtain rfl := g45.symm
    refine Ev_icmp_ge rfl (fun h48 => ?_) (fun h48 => absurd (nI_le (Nat.le_refl _) (by omega)) h48)
    exact hQ σ _ _ H hc
  | succ m ih =>
    intro a σ r w4 ha H hc hr he
    have he : chO (fun j k => sTo (aB A) (xgP (aN A).2.2.1 j k) (aN A).2.1 (wit (aB A)) (aN A).1 n) (np (aB A)) m (a + 1) (chI (fun j k => sTo (aB A) (xgP (aN A).2.2.1 j k) (aN A).2.1 (wit (aB A)) (aN A).1 n) a (np (aB A) - (a + 1)) (a + 1) r) = R := he
    refine Ev_iload rfl rfl ?_
    refine Ev_aload rfl rfl rfl ?_
    refine Ev_callV rfl rfl rfl rfl rfl (same_n 402) (m_planMany _ hρ H.2.1.1) ?_
    rintro v45 ρ45 σ45 ⟨rfl, e45, g45⟩
    obtain rfl := e45.symm
    obtain rfl := g45.symm
    refine Ev_icmp_ge rfl (fun h48 => absurd h48 (nI_ge (by omega) (by omega))) (fun h48 => ?_)
    refine Ev_iload rfl rfl ?_
    refine Ev_const rfl ?_
    refine Ev_iadd rfl ?_
    refine Ev_norm (nI_1 a) ?_
    refine Ev_istore rfl ?_
    refine mch_in (d := d) hM hA hn (show a < np (aB A) by omega) (fun σ1 t1 c1 r1 => ?_) (np (aB A) - (a + 1)) (a + 1) σ r (by omega) (by omega) H hc hr rfl
    refine Ev_iincE rfl rfl (nI_1 a) ?_
    refine Ev_goto rfl ?_
    exact ih (a + 1) σ1 _ _ (by omega) t1 c1 r1 he
def chG (r : Chg) (w : Nat) : Int32 := if w = 0 then r.1 else if w = 1 then r.2.1 else nI r.2.2
theorem op_change (a c : Int32) : OpI l X InvA 124 240 [.int a, .int c] := by
  refine op_of (fun A q ρ σ hA hC hρ => ?_)
  have hW := hA.1.1
  have hWt := hA.1.2.1
  have hWf := hA.1.2.2.1
  have n8 := hW.1
  have n6 := hW.2.1
  have nh := hA.2.1.1
  have hSw := hA.2.1.2.1
  have hPw := hA.2.1.2.2.1
  have hCS : CStr σ (aN A).2.1 := fun b hb i hi => rf_str hC hb hi
  have hhr := hC.2.2.2.1.1
  have e0 : (0 : Int32).toInt = 0 := rfl
  have e2 : (2 : Int32).toInt = 2 := rfl
  by_cases h : (cmF (aN A).1 a 1 30 && hasF 3 c) = true
  · obtain ⟨ha, hc⟩ := Bool.and_eq_true_iff.mp h
    obtain ⟨n, hn1, hn30, hn9, rfl⟩ := cmF_of (by decide) ha
    obtain ⟨w, hw, rfl⟩ := hasF_of hc
    have bT := sTo_le (W := wit (aB A)) (h := (aN A).1) (n := n) hW hPw hSw
    generalize hRe : chO (fun j k => sTo (aB A) (xgP (aN A).2.2.1 j k) (aN A).2.1 (wit (aB A)) (aN A).1 n) (np (aB A)) (np (aB A)) 0 (-1, -1, sTo (aB A) (aN A).2.2.1 (aN A).2.1 (wit (aB A)) (aN A).1 n) = R
    refine ⟨chG R w, A, hA, ?_, fun ρ σ hM => ?_⟩
    · have fc : ∀ z, T l X (z + 9) 18 [.ref 267, .int (nI n)] 402 402 ρ σ (fun v ρ' σ' => v = none ∧ ρ' = ρ ∧ CF cX σ σ' ∧ ChS σ' (aB A) (aN A).2.2.1 (aN A).2.1 (wit (aB A)) (aN A).1 n R) := fun z => by
        rw [← hRe]
        exact t_findChange z hC.2.1 hW hWt hWf hPw hC.2.2.2.1.2.2.1 hCS hSw hhr (by omega) hn1 hn30
      refine T_of rfl ?_
      refine Ev_aload rfl rfl rfl ?_
      refine Ev_iload rfl rfl ?_
      refine Ev_const rfl ?_
      refine Ev_const rfl ?_
      refine Ev_callV rfl rfl rfl rfl rfl (same_n 402) (t_comes _ _ (lo := 1) (hi := 30) hρ hhr (by omega) (by decide) (by decide)) ?_
      rintro v5 ρ5 σ5 ⟨rfl, e5, g5⟩
      obtain rfl := e5.symm
      obtain rfl := g5.symm
      refine Ev_if_eq rfl (fun h8 => absurd h8 (by rw [ha]; decide)) (fun h8 => ?_)
      refine Ev_iload rfl rfl ?_
      refine Ev_if_lt rfl (fun h12 => absurd h12 (nI_pos (by omega))) (fun h12 => ?_)
      refine Ev_iload rfl rfl ?_
      refine Ev_const rfl ?_
      refine Ev_icmp_le rfl (fun h17 => ?_) (fun h17 => absurd (nI_le (b := 2) (by omega) (by decide)) h17)
      refine Ev_aload rfl rfl rfl ?_
      refine Ev_getR rfl (by first | rfl | assumption) (hρ _ _ _ rfl) ?_
      refine Ev_iload rfl rfl ?_
      refine Ev_callV rfl rfl rfl rfl rfl (same_n 402) (fc 90) ?_
      rintro v27 ρ27 σ27 ⟨rfl, e27, s27, g27⟩
      obtain rfl := e27.symm
      refine Ev_iload rfl rfl ?_
      refine Ev_look rfl rfl (swP_c (fun h31_0 => ?_) (fun g31_0 => swP_c (fun h31_1 => ?_) (fun g31_1 => swP_n ?_)))
      · refine Ev_aload rfl rfl rfl ?_
        refine Ev_getR rfl (by first | rfl | assumption) (hρ _ _ _ rfl) ?_
        refine Ev_getI rfl (by first | rfl | assumption) ?_
        refine Ev_norm g27.2.2.1 ?_
        exact Ev_ireturn rfl rfl rfl rfl ⟨by rw [nI_toInt (by omega)] at h31_0; rw [show w = 0 by omega]; rfl, hC.pure s27⟩
      · refine Ev_aload rfl rfl rfl ?_
        refine Ev_getR rfl (by first | rfl | assumption) (hρ _ _ _ rfl) ?_
        refine Ev_getI rfl (by first | rfl | assumption) ?_
        refine Ev_norm g27.2.2.2.1 ?_
        exact Ev_ireturn rfl rfl rfl rfl ⟨by rw [nI_toInt (by omega)] at h31_1; rw [show w = 1 by omega]; rfl, hC.pure s27⟩
      · refine Ev_aload rfl rfl rfl ?_
        refine Ev_getR rfl (by first | rfl | assumption) (hρ _ _ _ rfl) ?_
        refine Ev_getI rfl (by first | rfl | assumption) ?_
        refine Ev_norm g27.2.2.2.2 ?_
        exact Ev_ireturn rfl rfl rfl rfl ⟨by rw [nI_toInt (by omega)] at g31_0 g31_1; rw [show w = 2 by omega]; rfl, hC.pure s27⟩
    · have hρ := hM.1
      have m0 : MF scC scF σ (sI σ 326 (upd (σ.1 326) 66 (-1))) := MF.put _ rfl
      have hM0 := hM.mx m0
      refine T_of rfl ?_
      refine Ev_aload rfl rfl rfl ?_
      refine Ev_iload rfl rfl ?_
      refine Ev_const rfl ?_
      refine Ev_const rfl ?_
      refine Ev_callV rfl rfl rfl rfl rfl (same_n 402) (m_isAhead _ _ (lo := 1) (hi := 30) hρ hM.2.2.2.1.1 (by omega) (by decide) (by decide)) ?_
      rintro v5 ρ5 σ5 ⟨rfl, e5, g5⟩
      obtain rfl := e5.symm
      obtain rfl := g5.symm
      refine Ev_if_eq rfl (fun h8 => absurd h8 (by rw [ha]; decide)) (fun h8 => ?_)
      refine Ev_iload rfl rfl ?_
      refine Ev_i2l rfl ?_
      refine Ev_constL rfl ?_
      refine Ev_constL rfl ?_
      refine Ev_callS rfl rfl rfl rfl (same_n 402) (m_isIn _ _ _ _) ?_
      rintro v17 ρ17 σ17 ⟨rfl, e17, g17⟩
      obtain rfl := e17.symm
      obtain rfl := g17.symm
      refine Ev_if_ne rfl (fun h20 => ?_) (fun h20 => absurd (by rw [isIn_lit (n := 3) rfl, hc]; decide) h20)
      refine Ev_aload rfl rfl rfl ?_
      refine Ev_const rfl ?_
      refine Ev_putI rfl (by first | rfl | assumption) ⟨rfl, rfl⟩ rfl ?_
      refine Ev_aload rfl rfl rfl ?_
      refine Ev_callV rfl rfl rfl rfl rfl (same_n 402) (m_thinksF _ hM0 hW) ?_
      rintro v31 ρ31 σ31 ⟨rfl, e31, t31, f31⟩
      obtain rfl := e31.symm
      refine Ev_aload rfl rfl rfl ?_
      refine Ev_const rfl ?_
      refine Ev_const rfl ?_
      refine Ev_iload rfl rfl ?_
      refine Ev_callV rfl rfl rfl rfl rfl (same_n 402) (m_tryNone _ hM0 hA (by omega) t31) ?_
      rintro v38 ρ38 σ38 ⟨rfl, e38, t38, c38⟩
      obtain rfl := e38.symm
      refine Ev_const rfl ?_
      refine Ev_istore rfl ?_
      have hz : ChM σ38 = chgN (-1, -1, sTo (aB A) (aN A).2.2.1 (aN A).2.1 (wit (aB A)) (aN A).1 n) := by
        have hm : (ChM σ31).2.2 = -1 := by show σ31.1 326 66 = -1; rw [f31 _ (by decide), sR_0, pk_us]
        rw [hm, if_pos (by
          rw [Int32.lt_iff_toInt_lt, nI_toInt (by omega)]
          have e : (-1 : Int32).toInt = -1 := rfl
          omega)] at c38
        exact c38
      refine mch_out (d := 90) hM0 hA (by omega) (fun σ1 a1 w1 t1 c1 => ?_) (np (aB A)) 0 σ38 _ _ (by omega) t38 hz bT hRe
      have k0 : σ1.1 326 64 = R.1 := congrArg (fun z => z.1) c1
      have k1 : σ1.1 326 65 = R.2.1 := congrArg (fun z => z.2.1) c1
      have k2 : σ1.1 326 66 = nI R.2.2 := congrArg (fun z => z.2.2) c1
      refine Ev_aload rfl rfl rfl ?_
      refine Ev_callV rfl rfl rfl rfl rfl (same_n 402) (m_thBackF _ hM0 t1) ?_
      rintro v86 ρ86 σ86 ⟨rfl, e86, f86, -, j86⟩
      obtain rfl := e86.symm
      refine Ev_iload rfl rfl ?_
      refine Ev_if_ne rfl (fun h90 => ?_) (fun h90 => ?_)
      · refine Ev_iload rfl rfl ?_
        refine Ev_const rfl ?_
        refine Ev_icmp_ne rfl (fun h102 => ?_) (fun h102 => ?_)
        · refine Ev_aload rfl rfl rfl ?_
          refine Ev_getI rfl (by first | rfl | assumption) ?_
          refine Ev_norm (by rw [j86 _ (by decide) (by decide)]; exact k2 : _ = nI R.2.2) ?_
          exact Ev_ireturn rfl rfl rfl rfl ⟨by rw [show w = 2 by have a1 : w ≠ 0 := (fun z => h90 (by rw [z]; rfl)); have a2 : w ≠ 1 := (fun z => h102 (by rw [z]; rfl)); omega]; rfl, rfl, hM.pure (m0.tr f86)⟩
        · refine Ev_aload rfl rfl rfl ?_
          refine Ev_getI rfl (by first | rfl | assumption) ?_
          refine Ev_norm (by rw [j86 _ (by decide) (by decide)]; exact k1 : _ = R.2.1) ?_
          refine Ev_goto rfl ?_
          exact Ev_ireturn rfl rfl rfl rfl ⟨by rw [show w = 1 from (nI_eq (b := 1) (by omega) (by decide)).mp (Decidable.not_not.mp h102)]; rfl, rfl, hM.pure (m0.tr f86)⟩
      · refine Ev_aload rfl rfl rfl ?_
        refine Ev_getI rfl (by first | rfl | assumption) ?_
        refine Ev_norm (by rw [j86 _ (by decide) (by decide)]; exact k0 : _ = R.1) ?_
        refine Ev_goto rfl ?_
        exact Ev_ireturn rfl rfl rfl rfl ⟨by rw [show w = 0 from (nI_eq (b := 0) (by omega) (by decide)).mp (Decidable.not_not.mp h90)]; rfl, rfl, hM.pure (m0.tr f86)⟩
  · refine ⟨-1, A, hA, ?_, fun ρ σ hM => ?_⟩
    · refine T_of rfl ?_
      refine Ev_aload rfl rfl rfl ?_
      refine Ev_iload rfl rfl ?_
      refine Ev_const rfl ?_
      refine Ev_const rfl ?_
      refine Ev_callV rfl rfl rfl rfl rfl (same_n 402) (t_comes _ _ (lo := 1) (hi := 30) hρ hhr (by omega) (by decide) (by decide)) ?_
      rintro v5 ρ5 σ5 ⟨rfl, e5, g5⟩
      obtain rfl := e5.symm
      obtain rfl := g5.symm
      refine Ev_if_eq rfl (fun h8 => ?_) (fun h8 => ?_)
      · refine Ev_const rfl ?_
        exact Ev_ireturn rfl rfl rfl rfl ⟨rfl, hC.same⟩
      · refine Ev_iload rfl rfl ?_
        refine Ev_if_lt rfl (fun h12 => ?_) (fun h12 => ?_)
        · refine Ev_const rfl ?_
          exact Ev_ireturn rfl rfl rfl rfl ⟨rfl, hC.same⟩
        · refine Ev_iload rfl rfl ?_
          refine Ev_const rfl ?_
          refine Ev_icmp_le rfl (fun h17 => absurd (Bool.and_eq_true_iff.mpr ⟨rt_of h8, decide_eq_true (by
          rw [Int32.lt_iff_toInt_lt] at h12
          rw [Int32.le_iff_toInt_le] at h17
          omega)⟩) h) (fun h17 => ?_)
          refine Ev_const rfl ?_
          exact Ev_ireturn rfl rfl rfl rfl ⟨rfl, hC.same⟩
    · have hρ := hM.1
      refine T_of rfl ?_
      refine Ev_aload rfl rfl rfl ?_
      refine Ev_iload rfl rfl ?_
      refine Ev_const rfl ?_
      refine Ev_const rfl ?_
      refine Ev_callV rfl rfl rfl rfl rfl (same_n 402) (m_isAhead _ _ (lo := 1) (hi := 30) hρ hM.2.2.2.1.1 (by omega) (by decide) (by decide)) ?_
      rintro v5 ρ5 σ5 ⟨rfl, e5, g5⟩
      obtain rfl := e5.symm
      obtain rfl := g5.symm
      refine Ev_if_eq rfl (fun h8 => ?_) (fun h8 => ?_)
      · refine Ev_const rfl ?_
        exact Ev_ireturn rfl rfl rfl rfl ⟨rfl, rfl, hM.same⟩
      · refine Ev_iload rfl rfl ?_
        refine Ev_i2l rfl ?_
        refine Ev_constL rfl ?_
        refine Ev_constL rfl ?_
        refine Ev_callS rfl rfl rfl rfl (same_n 402) (m_isIn _ _ _ _) ?_
        rintro v17 ρ17 σ17 ⟨rfl, e17, g17⟩
        obtain rfl := e17.symm
        obtain rfl := g17.symm
        refine Ev_if_ne rfl (fun h20 => absurd (Bool.and_eq_true_iff.mpr ⟨rt_of h8, by have := rt_of h20; rwa [isIn_lit (n := 3) rfl] at this⟩) h) (fun h20 => ?_)
        refine Ev_const rfl ?_
        exact Ev_ireturn rfl rfl rfl rfl ⟨rfl, rfl, hM.same⟩
end S88c
