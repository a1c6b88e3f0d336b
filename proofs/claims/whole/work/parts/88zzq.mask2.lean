/-! A question asked: the reference's whole call. -/
def akf (A : Ab) (b : Nat) : Int := evF (fun s => ((seeF (aB A) ((aN A).2.1 b) b (wit (aB A) b) (aN A).1 (tdM (aB A) (aN A).1) 0 0 (rset (aB A) ((aN A).2.1 b) b (wit (aB A) b) (aN A).1 (tdM (aB A) (aN A).1)) s : Nat) : Int)) (akY (aT A)).2
def akV (A : Ab) : Int64 := match akR (aT A) with
  | .inl _ => -1000000000000000
  | .inr _ => lI (qGo (akK (aT A)) (akf A) (nb (aB A)))
def akX (A : Ab) : Nat × Int32 := match akR (aT A) with
  | .inl e => (e.1, nI e.2)
  | .inr _ => (0, -1)
def akA (A : Ab) : Ab := mkA (aB A) (aN A) (aP A) (aF A) (aX A) (0, (aT A).2) (aR A) (akX A) (aG A)
theorem wf_akA {A : Ab} (h : WfA A) : WfA (akA A) := by
  obtain ⟨h1, h2, h3, h4, h5, h6, h7⟩ := h
  exact ⟨h1, h2, h3, h4, h5, ⟨Nat.zero_le _, h6.2⟩, h7⟩
/-- what comes behind the question: nothing, or something -/
theorem akE_n {U : Tx} {p : Nat × Nat} {s : Rdg} (hlag : Lag U (.inr p) s) (hI : Ivr U s) (h : mC U (.inr p) = none) : akE U s = skM U (.inr p) := by
  obtain ⟨h1, h2⟩ := hlag
  have hc : cfT U p = false := by
    cases hz : cfT U p with
    | false => rfl
    | true =>
      obtain ⟨-, -, -, -, -, -, x, c7, -⟩ := cf_yes hz
      rw [h] at c7; cases c7
  cases s with
  | inl e =>
    have := cf_of (U := U) (p := p) (e := e) h1
    rw [hc] at this; cases this.1
  | inr q =>
    have e : p = q := Sum.inr.inj (h2 rfl)
    subst e
    obtain ⟨c1, c2, -⟩ := cf_no hI hc
    unfold akE
    rw [c2, h, if_pos rfl, c1]
theorem akE_s {U : Tx} {p : Nat × Nat} {s : Rdg} {c : Nat} (hlag : Lag U (.inr p) s) (hI : Ivr U s) (h : mC U (.inr p) = some c) : akE U s = .inl (1, skp U p.1) := by
  obtain ⟨h1, h2⟩ := hlag
  cases s with
  | inl e =>
    have h3 := (cf_of (U := U) (p := p) (e := e) h1).2
    subst h3; rfl
  | inr q =>
    have e : p = q := Sum.inr.inj (h2 rfl)
    subst e
    cases hz : cfT U p with
    | true =>
      obtain ⟨c1, c2, -⟩ := cf_yes hz
      unfold akE
      rw [c2, if_pos rfl, c1]
    | false =>
      obtain ⟨c1, c2, -⟩ := cf_no hI hz
      unfold akE
      rw [c2, h, if_neg (by intro z; cases z), c1]
      rfl
def cAs (q : Nat) : Bool := cQ q || c2A q
def fAr (j : Nat) : Bool := fTx j || fQ j || f2A j
def fAs (j : Nat) : Bool := fAr j || Nat.beq j 3 || Nat.beq j 1 || Nat.beq j 7 || Nat.beq j 8
theorem fAr_f {j : Nat} (h : fAr j = false) : fTx j = false ∧ fQ j = false ∧ f2A j = false := by
  unfold fAr at h
  simp only [Bool.or_eq_false_iff] at h
  exact ⟨h.1.1, h.1.2, h.2⟩
theorem fAs_f {j : Nat} (h : fAs j = false) : fAr j = false := by
  unfold fAs at h
  simp only [Bool.or_eq_false_iff] at h
  exact h.1.1.1.1
theorem cAs_f {q : Nat} (h : cAs q = false) : cQ q = false ∧ c2A q = false := Bool.or_eq_false_iff.mp h
theorem mx_ar {σ σ' : St} (h : MX σ σ') : MA cAs fAr σ σ' := (h.wk (C' := cAs) (Fd' := fAr) (fun _ _ => rfl) (fun j z => (fAr_f z).1)).ma
theorem mb_ar {σ σ' : St} (h : MB σ σ') : MA cAs fAr σ σ' := (h.wk (C' := cAs) (Fd' := fAr) (fun q z => (cAs_f z).1) (fun j z => by
  obtain ⟨z1, z2, -⟩ := fAr_f z
  unfold fQ at z2
  simp only [Bool.or_eq_false_iff] at z2
  unfold fNB fCW
  rw [z1, z2.1.1.1, z2.1.1.2, z2.1.2]; rfl)).ma
theorem ma_ar {σ σ' : St} (h : MA c2A f2A σ σ') : MA cAs fAr σ σ' := h.wk (fun q z => (cAs_f z).2) (fun j z => (fAr_f z).2.2)
theorem ar_as {σ σ' : St} (h : MA cAs fAr σ σ') : MA cAs fAs σ σ' := h.wk (fun q z => z) (fun j z => fAs_f z)
theorem as_put {σ : St} {f : Nat} (x : Int32) (h : fAs f = true) : MA cAs fAs σ (sI σ 326 (upd (σ.1 326) f x)) := (MF.put (C := cAs) x h).ma
theorem RM.ak {ρ : Rf} {σ σ' : St} {A : Ab} {E : Nat × Int32} (H : RM ρ σ A) (hs : MA cAs fAs σ σ') (ht : σ'.1 326 1 = nI 0) (he : σ'.1 326 7 = nI E.1 ∧ σ'.1 326 8 = E.2) : RM ρ σ' (mkA (aB A) (aN A) (aP A) (aF A) (aX A) (0, (aT A).2) (aR A) E (aG A)) := by
  have hm := hs.mf
  have H0 := H
  obtain ⟨h0, h1, h5, h6, h7, h8, h9, h10, h11, h12, h13⟩ := H
  have g : RM ρ (σ'.1, σ.2) (mkA (aB A) (aN A) (aP A) (aF A) (aX A) (0, (aT A).2) (aR A) E (aG A)) := by
    refine H0.chg hm rfl _ rfl ?_ ?_ (h7.mf hm rfl rfl) (h8.mf hm rfl rfl) h9 ⟨ht, fun j hj => absurd hj (Nat.not_lt_zero j)⟩ (fun j hj => ?_) he (h13.mf hm rfl rfl)
    · rw [hm.2.2 _ rfl, hm.2.2 _ rfl]; exact h5
    · rw [hm.1 365 (by decide) rfl]; exact h6
    · rw [hm.1 328 (by decide) rfl]; exact h11 j hj
  have en : σ'.2 357 = σ.2 357 := funext fun j => hs.2.1 _ j (by decide) (fun z => absurd z (by decide))
  have es : σ'.2 326 75 = σ.2 326 75 := hs.2.1 326 _ (by decide) (fun _ => by decide)
  obtain ⟨g0, ⟨g1, g2, g3, g4, g4', g4''⟩, g5, g6, g7, g8, g9, g10, g11, g12, g13⟩ := g
  refine ⟨g0, ⟨g1, g2, g3, ?_, ?_, g4''⟩, g5, g6, g7, g8, ?_, g10, g11, g12, g13⟩
  · rw [en]; exact g4
  · rw [en]; exact g4'
  · rw [es]; exact g9
theorem as_up {σ σ' : St} (h : MA cAs fAs σ σ') : upC σ σ' := fun q hq => h.1 q (by omega) (by
  unfold cAs cQ c2A
  rw [nbeq (by omega), nbeq (by omega), nbeq (by omega)]; rfl)
section S88zzq
variable {l : Launch} {X : Cx} {ρ : Rf}
theorem m_ask (d : Nat) {σ : St} {A : Ab} (hA : WfA A) (hM : RM ρ σ A) :
    T l X (d + 9) 290 [.ref 326] 402 402 ρ σ (fun v ρ' σ' => v = some (.long (akV A)) ∧ ρ' = ρ ∧ upC σ σ' ∧ RM ρ' σ' (akA A)) := by
  have hM0 := hM
  have hρ := hM.1
  have hT := tx_A hA
  have hWB := hA.1
  have hrd := hM.rd hWB.1
  have hfr := hM.2.1.2.2.1
  have r12 := hM.2.2.2.2.2.2.2.1
  have hW : Wds σ := hM.2.1.2.2.2.2.2
  have hNW := hA.2.1
  obtain ⟨okI, okY⟩ := ak_ok (U := aT A) hT
  have hk5 : akK (aT A) ≤ 5 := akN_le _
  -- the fault is noted; the answer
  have fin : ∀ (σ1 σ2 : St) (L : Value), MA cAs fAs σ σ1 → σ1.1 326 1 = nI 0 → MA cAs fAr σ1 σ2 → MTt σ2 (aT A) (akR (aT A)) → (isOk (akR (aT A)) = true → MPc σ2 (akY (aT A)).2 []) → Ev l X (d + 9) 290 117 [.ref 326, .int (nI (akK (aT A))), L] [] 402 402 402 ρ σ2 (fun v ρ' σ' => v = some (.long (akV A)) ∧ ρ' = ρ ∧ upC σ σ' ∧ RM ρ' σ' (akA A)) := by
    intro σ1 σ2 L m1 t1 m2 hs hp
    have m12 := m1.tr (ar_as m2)
    have t2 : σ2.1 326 1 = nI 0 := (m2.2.2 _ rfl).trans t1
    unfold akV akA akX
    cases he : akR (aT A) with
    | inl e =>
      rw [he] at hs
      obtain ⟨-, -, b1, b2, b3, -⟩ := hs
      refine Ev_aload rfl rfl rfl ?_
      refine Ev_aload rfl rfl rfl ?_
      refine Ev_getI rfl (by first | rfl | assumption) ?_
      refine Ev_norm b1 ?_
      refine Ev_putI rfl (by first | rfl | assumption) ⟨rfl, rfl⟩ rfl ?_
      refine Ev_aload rfl rfl rfl ?_
      refine Ev_aload rfl rfl rfl ?_
      refine Ev_getI rfl (by first | rfl | assumption) ?_
      refine Ev_norm (by rw [sR_0, pk_un (by decide)]; exact b2 : _ = nI e.2) ?_
      refine Ev_putI rfl (by first | rfl | assumption) ⟨rfl, rfl⟩ rfl ?_
      refine Ev_aload rfl rfl rfl ?_
      refine Ev_getI rfl (by first | rfl | assumption) ?_
      refine Ev_norm (by rw [sR_0, pk_un (by decide), sR_0, pk_un (by decide)]; exact b1 : _ = nI e.1) ?_
      refine Ev_if_eq rfl (fun h137 => absurd h137 (nI_ne0 b3.1 (by omega))) (fun h137 => ?_)
      refine Ev_constL rfl ?_
      exact Ev_lreturn rfl rfl rfl (by
      generalize hσ3 : sI (sI σ2 326 (upd (σ2.1 326) 7 (nI e.1))) 326 _ = σ3
      have m3 : MA cAs fAs σ2 σ3 := by rw [← hσ3]; exact (as_put _ rfl).tr (as_put _ rfl)
      have e3 : σ3.1 326 = upd (upd (σ2.1 326) 7 (nI e.1)) 8 (nI e.2) := by rw [← hσ3, sR_0, sR_0]
      exact ⟨rfl, rfl, as_up (m12.tr m3), hM0.ak (E := (e.1, nI e.2)) (m12.tr m3) (by rw [e3, pk_un (by decide), pk_un (by decide)]; exact t2) ⟨by rw [e3, pk_un (by decide), pk_us], by rw [e3, pk_us]⟩⟩)
    | inr p =>
      rw [he] at hs hp
      obtain ⟨p1, p2, -, -⟩ := hp rfl
      have b1 := hs.bad0
      have b2 : σ2.1 326 6 = -1 := hs.2.2.2.2.2.2.2.2
      have hokY : isOk (akY (aT A)).1 = true := akE_ok (U := aT A) (by show isOk (akR (aT A)) = true; rw [he]; rfl)
      obtain ⟨y1, y2⟩ := okY hokY
      refine Ev_aload rfl rfl rfl ?_
      refine Ev_aload rfl rfl rfl ?_
      refine Ev_getI rfl (by first | rfl | assumption) ?_
      refine Ev_norm b1 ?_
      refine Ev_putI rfl (by first | rfl | assumption) ⟨rfl, rfl⟩ rfl ?_
      refine Ev_aload rfl rfl rfl ?_
      refine Ev_aload rfl rfl rfl ?_
      refine Ev_getI rfl (by first | rfl | assumption) ?_
      refine Ev_norm (by rw [sR_0, pk_un (by decide)]; exact b2 : _ = (-1 : Int32)) ?_
      refine Ev_putI rfl (by first | rfl | assumption) ⟨rfl, rfl⟩ rfl ?_
      refine Ev_aload rfl rfl rfl ?_
      refine Ev_getI rfl (by first | rfl | assumption) ?_
      refine Ev_norm (by rw [sR_0, pk_un (by decide), sR_0, pk_un (by decide)]; exact b1 : _ = (0 : Int32)) ?_
      refine Ev_if_eq rfl (fun h137 => ?_) (fun h137 => absurd rfl h137)
      generalize hσ3 : sI (sI σ2 326 (upd (σ2.1 326) 7 0)) 326 _ = σ3
      have m3 : MA cAs fAs σ2 σ3 := by rw [← hσ3]; exact (as_put _ rfl).tr (as_put _ rfl)
      have e3 : σ3.1 326 = upd (upd (σ2.1 326) 7 0) 8 (-1) := by rw [← hσ3, sR_0, sR_0]
      have ec : ∀ q, q ≠ 326 → σ3.1 q = σ2.1 q := fun q hq => by rw [← hσ3, sR_1 _ _ hq, sR_1 _ _ hq]
      clear hσ3
      have m13 := m12.tr m3
      refine m_askEnd (d + 2) (B := aB A) (S := (aN A).2.1) (h := (aN A).1) (cs := (akY (aT A)).2) (tf := Nat.ble (akK (aT A)) 2) (f := akf A) hρ hk5 (fun _ => rfl) (hrd.ma m13 rfl rfl) (hfr.ma m13 rfl) hWB.1 hWB.2.1 hWB.2.2.1 hNW.2.1 hWB.2.2.2.1 hNW.1 y2 (fun z => Nat.ble_eq.mpr z) y1 (by rw [e3, pk_un (by decide), pk_un (by decide)]; exact p1) (fun q hq => by rw [ec _ (by decide)]; exact p2 q hq) (fun σ' h' => ?_)
      have m14 := m13.tr (ar_as (ma_ar h'))
      exact ⟨rfl, rfl, as_up m14, hM0.ak (E := (0, -1)) m14 (by rw [h'.2.2 _ rfl, e3, pk_un (by decide), pk_un (by decide)]; exact t2) ⟨by rw [h'.2.2 _ rfl, e3, pk_un (by decide), pk_us]; rfl, by rw [h'.2.2 _ rfl, e3, pk_us]⟩⟩
  -- behind the formula
  have mid : ∀ (σ1 σ2 : St) (L : Value) (sr : Rdg) (out : List Nat), MA cAs fAs σ σ1 → σ1.1 326 1 = nI 0 → MA cAs fAr σ1 σ2 → MTt σ2 (aT A) sr → Lag (aT A) sr (akY (aT A)).1 → (isOk (akY (aT A)).1 = true → out = (akY (aT A)).2) → (isOk sr = true → MPc σ2 out []) → Ev l X (d + 9) 290 93 [.ref 326, .int (nI (akK (aT A))), L] [] 402 402 402 ρ σ2 (fun v ρ' σ' => v = some (.long (akV A)) ∧ ρ' = ρ ∧ upC σ σ' ∧ RM ρ' σ' (akA A)) := by
    intro σ1 σ2 L sr out m1 t1 m2 hs hlag hy hp
    cases sr with
    | inl e =>
      obtain ⟨z, hz, hz0⟩ := hs.badE
      have e1 : akR (aT A) = .inl e := by
        unfold akR
        rw [← (hlag.bad rfl).2]; rfl
      refine Ev_aload rfl rfl rfl ?_
      refine Ev_getI rfl (by first | rfl | assumption) ?_
      refine Ev_norm hz ?_
      refine Ev_if_ne rfl (fun h97 => ?_) (fun h97 => absurd hz0 h97)
      exact fin σ1 σ2 L m1 t1 m2 (by rw [e1]; exact hs) (fun z => by rw [e1] at z; cases z)
    | inr p =>
      cases hc : mC (aT A) (.inr p) with
      | none =>
        have e1 : akR (aT A) = skM (aT A) (.inr p) := akE_n hlag okI hc
        refine Ev_aload rfl rfl rfl ?_
        refine Ev_getI rfl (by first | rfl | assumption) ?_
        refine Ev_norm hs.bad0 ?_
        refine Ev_if_ne rfl (fun h97 => absurd rfl h97) (fun h97 => ?_)
        refine Ev_aload rfl rfl rfl ?_
        refine Ev_callV rfl rfl rfl rfl rfl (same_n 402) (m_look _ hρ hT hs) ?_
        rintro v101 ρ101 σ101 ⟨⟨x, rfl, hx⟩, e101, s101, c101⟩
        obtain rfl := e101.symm
        have hx := hx rfl
        rw [hc] at hx
        subst hx
        refine Ev_const rfl ?_
        refine Ev_icmp_eq rfl (fun h105 => ?_) (fun h105 => absurd rfl h105)
        exact fin σ1 σ101 L m1 t1 (m2.tr (mx_ar c101)) (by rw [e1]; exact s101) (fun z => by
        have hokY : isOk (akY (aT A)).1 = true := akE_ok (U := aT A) z
        rw [← hy hokY]
        exact (hp rfl).mx c101)
      | some c =>
        have e1 : akR (aT A) = .inl (1, skp (aT A) p.1) := akE_s hlag okI hc
        refine Ev_aload rfl rfl rfl ?_
        refine Ev_getI rfl (by first | rfl | assumption) ?_
        refine Ev_norm hs.bad0 ?_
        refine Ev_if_ne rfl (fun h97 => absurd rfl h97) (fun h97 => ?_)
        refine Ev_aload rfl rfl rfl ?_
        refine Ev_callV rfl rfl rfl rfl rfl (same_n 402) (m_look _ hρ hT hs) ?_
        rintro v101 ρ101 σ101 ⟨⟨x, rfl, hx⟩, e101, s101, c101⟩
        obtain rfl := e101.symm
        have hx := hx rfl
        subst hx
        refine Ev_const rfl ?_
        refine Ev_icmp_eq rfl (fun h105 => absurd ((lkV_m1 (mC_256 hT)).mp h105) (by rw [hc]; intro z; cases z)) (fun h105 => ?_)
        refine Ev_aload rfl rfl rfl ?_
        refine Ev_const rfl ?_
        refine Ev_aload rfl rfl rfl ?_
        refine Ev_getI rfl (by first | rfl | assumption) ?_
        refine Ev_callV rfl rfl rfl rfl rfl (same_n 402) (m_fail _ (w := 1) (k := skp (aT A) p.1) s101 (by decide) (fun q hq => by have hq2 : p = p := rfl; cases hq; exact s101.at0)) ?_
        rintro v114 ρ114 σ114 ⟨rfl, e114, s114, c114⟩
        obtain rfl := e114.symm
        exact fin σ1 σ114 L m1 t1 ((m2.tr (mx_ar c101)).tr (mx_ar c114)) (by rw [e1]; exact s114) (fun z => by rw [e1] at z; cases z)
  refine T_of rfl ?_
  refine Ev_aload rfl rfl rfl ?_
  refine Ev_aload rfl rfl rfl ?_
  refine Ev_getI rfl (by first | rfl | assumption) ?_
  refine Ev_norm r12.1 ?_
  refine Ev_putI rfl (by first | rfl | assumption) ⟨rfl, rfl⟩ rfl ?_
  refine Ev_aload rfl rfl rfl ?_
  refine Ev_const rfl ?_
  refine Ev_putI rfl (by first | rfl | assumption) ⟨rfl, rfl⟩ rfl ?_
  refine Ev_aload rfl rfl rfl ?_
  refine Ev_const rfl ?_
  refine Ev_putI rfl (by first | rfl | assumption) ⟨rfl, rfl⟩ rfl ?_
  refine Ev_aload rfl rfl rfl ?_
  refine Ev_const rfl ?_
  refine Ev_putI rfl (by first | rfl | assumption) ⟨rfl, rfl⟩ rfl ?_
  refine Ev_aload rfl rfl rfl ?_
  refine Ev_const rfl ?_
  refine Ev_putI rfl (by first | rfl | assumption) ⟨rfl, rfl⟩ rfl ?_
  refine Ev_aload rfl rfl rfl ?_
  refine Ev_const rfl ?_
  refine Ev_putI rfl (by first | rfl | assumption) ⟨rfl, rfl⟩ rfl ?_
  refine Ev_aload rfl rfl rfl ?_
  refine Ev_const rfl ?_
  refine Ev_putI rfl (by first | rfl | assumption) ⟨rfl, rfl⟩ rfl ?_
  refine Ev_aload rfl rfl rfl ?_
  refine Ev_const rfl ?_
  refine Ev_putI rfl (by first | rfl | assumption) ⟨rfl, rfl⟩ rfl ?_
  refine Ev_aload rfl rfl rfl ?_
  refine Ev_const rfl ?_
  refine Ev_putI rfl (by first | rfl | assumption) ⟨rfl, rfl⟩ rfl ?_
  refine Ev_aload rfl rfl rfl ?_
  refine Ev_const rfl ?_
  refine Ev_putI rfl (by first | rfl | assumption) ⟨rfl, rfl⟩ rfl ?_
  refine Ev_aload rfl rfl rfl ?_
  refine Ev_const rfl ?_
  refine Ev_putI rfl (by first | rfl | assumption) ⟨rfl, rfl⟩ rfl ?_
  generalize hσ1 : sI (sI (sI (sI (sI (sI (sI (sI (sI (sI (sI σ 326 _) 326 _) 326 _) 326 _) 326 _) 326 _) 326 _) 326 _) 326 _) 326 _) 326 _ = σ1
  have e324 : σ1.1 326 = upd (upd (upd (upd (upd (upd (upd (upd (upd (upd (upd (σ.1 326) 3 (nI (aT A).1)) 1 (nI 0)) 2 (nI 0)) 4 (-1)) 5 0) 6 (-1)) 50 (nI 4)) 100 (nI 0)) 102 (nI 0)) 103 (nI 0)) 104 (nI 0) := by rw [← hσ1, sR_0, sR_0, sR_0, sR_0, sR_0, sR_0, sR_0, sR_0, sR_0, sR_0, sR_0]; rfl
  have ec : ∀ q, q ≠ 326 → σ1.1 q = σ.1 q := fun q hq => by rw [← hσ1, sR_1 _ _ hq, sR_1 _ _ hq, sR_1 _ _ hq, sR_1 _ _ hq, sR_1 _ _ hq, sR_1 _ _ hq, sR_1 _ _ hq, sR_1 _ _ hq, sR_1 _ _ hq, sR_1 _ _ hq, sR_1 _ _ hq]
  have el : σ1.2 = σ.2 := by rw [← hσ1]; rfl
  clear hσ1
  have n3 : ∀ {j f : Nat}, fAs j = false → fAs f = true → j ≠ f := fun h1 h2 z => by rw [z, h2] at h1; cases h1
  have m1 : MA cAs fAs σ σ1 := ⟨fun q hq _ => ec q hq, fun q j _ _ => by rw [el], fun j hj => by rw [e324, pk_un (n3 hj rfl), pk_un (n3 hj rfl), pk_un (n3 hj rfl), pk_un (n3 hj rfl), pk_un (n3 hj rfl), pk_un (n3 hj rfl), pk_un (n3 hj rfl), pk_un (n3 hj rfl), pk_un (n3 hj rfl), pk_un (n3 hj rfl), pk_un (n3 hj rfl)]⟩
  have t1 : σ1.1 326 1 = nI 0 := by rw [e324]; rfl
  have en : σ1.1 326 4 = -1 := by rw [e324]; rfl
  have s1 : MTt σ1 (aT A) (.inr (0, 0)) := by
    refine ⟨by rw [e324]; rfl, fun j hj => ?_, Nat.zero_le _, Nat.zero_le _, by rw [e324]; rfl, by rw [en]; decide, ⟨fun z => ?_, fun z => absurd rfl z⟩, by rw [e324]; rfl, by rw [e324]; rfl⟩
    · rw [ec _ (by decide)]; exact r12.2 j hj
    · rw [en] at z; exact absurd z (by decide)
  have hW1 : Wds σ1 := hW.eq (fun p hp => ec p.1 (by have := (wdS_ok p hp).1; omega))
  have hK : σ1.1 326 50 = nI 4 := by rw [e324]; rfl
  have hq0 : MPq σ1 [] [] 0 := ⟨⟨by rw [e324]; rfl, fun j hj => absurd hj (Nat.not_lt_zero j), by rw [e324]; rfl, trivial⟩, by rw [e324]; rfl, Nat.le_refl _, Nat.zero_le _⟩
  clear e324
  have hIk := Ivr_ak (aT A)
  have eY : akY (aT A) = akF (aT A) (akK (aT A)) (akS (aT A) (.inr (0, 0))) := rfl
  have hqk := m_qKind (l := l) (X := X) (d + 4) hρ hT hW1 s1
  generalize akS (aT A) (.inr (0, 0)) = s0 at *
  refine Ev_aload rfl rfl rfl ?_
  refine Ev_callV rfl rfl rfl rfl rfl (same_n 402) hqk ?_
  rintro v59 ρ59 σ59 ⟨rfl, e59, s59, c59⟩
  obtain rfl := e59.symm
  refine Ev_istore rfl ?_
  have m59 := mx_ar c59
  cases s0 with
  | inl e =>
    obtain ⟨z, hz, hz0⟩ := s59.badE
    have eY1 : (akY (aT A)).1 = .inl e := by
      rw [eY]
      unfold akF
      split
      · exact fl_te (D := lvl (aT A) 4 5) e []
      · exact fl_sm (D := lvl (aT A) 4 5) e []
    refine Ev_aload rfl rfl rfl ?_
    refine Ev_getI rfl (by first | rfl | assumption) ?_
    refine Ev_norm hz ?_
    refine Ev_if_ne rfl (fun h67 => ?_) (fun h67 => absurd hz0 h67)
    refine Ev_aload rfl rfl rfl ?_
    refine Ev_getI rfl (by first | rfl | assumption) ?_
    refine Ev_norm hz ?_
    refine Ev_if_ne rfl (fun h86 => ?_) (fun h86 => absurd hz0 h86)
    exact mid σ1 σ59 _ (.inl e) [] m1 t1 m59 s59 (by rw [eY1]; exact Lag.rf _ _) (fun z => by rw [eY1] at z; cases z) (fun z => by cases z)
  | inr q =>
    have hW59 := hW1.mx c59
    have hK59 : σ59.1 326 50 = nI 4 := (c59.2.2 _ rfl).trans hK
    have q59 := hq0.mx c59
    by_cases hk2 : akK (aT A) ≤ 2
    · obtain ⟨⟨f, r, f1, f2, f3⟩, -⟩ := te_fin hT (show 4 < 5 by decide) hIk
      have eY2 : akY (aT A) = (lvl (aT A) 4 6).2.1 (.inr q, []) := by rw [eY]; exact if_pos hk2
      rw [← eY2] at f2 f3
      refine Ev_aload rfl rfl rfl ?_
      refine Ev_getI rfl (by first | rfl | assumption) ?_
      refine Ev_norm s59.bad0 ?_
      refine Ev_if_ne rfl (fun h67 => absurd rfl h67) (fun h67 => ?_)
      refine Ev_iload rfl rfl ?_
      refine Ev_const rfl ?_
      refine Ev_icmp_ge rfl (fun h72 => absurd h72 (fun z => by have := (nI_leI (a := 3) (b := akK (aT A)) (by decide) (by omega)).mp z; omega)) (fun h72 => ?_)
      refine Ev_aload rfl rfl rfl ?_
      refine Ev_callV rfl rfl rfl rfl rfl (same_n 402) (m_qTest _ (P := q.1) (z := (.inr q, [], [], 0)) hρ hT (show 4 < 5 by decide) ⟨s59, fun _ => ⟨q59, (fun e he => by cases he), by show 0 + 0 + q.1 ≤ q.1; omega⟩⟩ hW59 hK59 f1) ?_
      rintro v76 ρ76 σ76 ⟨rfl, e76, s76, p76, c76⟩
      obtain rfl := e76.symm
      refine Ev_goto rfl ?_
      exact mid σ1 σ76 _ r.1 (r.2.1 ++ r.2.2.1) m1 t1 (m59.tr (mb_ar c76)) s76 ⟨f2, fun z => (f3 z).1⟩ (fun z => (f3 z).2) (fun z => (p76 z).1)
    · obtain ⟨⟨f, r, f1, f2, f3⟩, -⟩ := su_fin hT (show 4 < 5 by decide) hIk
      have eY2 : akY (aT A) = (lvl (aT A) 4 6).2.2.1 (.inr q, []) := by rw [eY]; exact if_neg hk2
      rw [← eY2] at f2 f3
      refine Ev_aload rfl rfl rfl ?_
      refine Ev_getI rfl (by first | rfl | assumption) ?_
      refine Ev_norm s59.bad0 ?_
      refine Ev_if_ne rfl (fun h67 => absurd rfl h67) (fun h67 => ?_)
      refine Ev_iload rfl rfl ?_
      refine Ev_const rfl ?_
      refine Ev_icmp_ge rfl (fun h72 => ?_) (fun h72 => absurd ((nI_leI (a := 3) (b := akK (aT A)) (by decide) (by omega)).mpr (by omega)) h72)
      refine Ev_aload rfl rfl rfl ?_
      refine Ev_getI rfl (by first | rfl | assumption) ?_
      refine Ev_norm s59.bad0 ?_
      refine Ev_if_ne rfl (fun h86 => absurd rfl h86) (fun h86 => ?_)
      refine Ev_aload rfl rfl rfl ?_
      refine Ev_callV rfl rfl rfl rfl rfl (same_n 402) (m_qSumsX _ (P := q.1) hρ hT (show 4 < 5 by decide) (W := []) (fun e he => by cases he) s59 hW59 hK59 q59 (by show 0 + 0 + q.1 ≤ q.1; omega) f1) ?_
      rintro v90 ρ90 σ90 ⟨rfl, e90, s90, p90, d90, c90⟩
      obtain rfl := e90.symm
      exact mid σ1 σ90 _ r.1 r.2 m1 t1 (m59.tr (mb_ar c90)) s90 ⟨f2, fun z => by rw [f3 z]⟩ (fun z => by rw [f3 z]) (fun z => (p90 z).1.1)
end S88zzq
