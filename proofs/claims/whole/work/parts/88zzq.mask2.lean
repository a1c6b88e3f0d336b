/-! A question asked: the reference's whole call. -/
def akf (A : Ab) (b : Nat) : Int := evF (fun s => ((seeF (aB A) ((aN A).2.1 b) b (wit (aB A) b) (aN A).1 (tdM (aB A) (aN A).1) 0 0 (rset (aB A) ((aN A).2.1 b) b (wit (aB A) b) (aN A).1 (tdM (aB A) (aN A).1)) s : Nat) : Int)) (akY (aT A)).2
def akV (A : Ab) : Int64 := match akR (aT A) with
  | .inl _ => -1000000000000000
  | .inr _ => lI (qGo (akK (aT A)) (akf A) (nb (aB A)))
def akX (A : Ab) : Nat × Int32 := match akR (aT A) with
  | .inl e => (e.1, nI e.2)
  | .inr _ => (0, -1)
def akA (A : Ab) : Ab := mkA (aB A) (aN A) (aP A) (aF A) (aX A) (0, (aT A).2) (aR A) (akX A) (aG A)
theorem wf_akA {A : Ab} (h : WfA A) : WfA (akA A) := by
  obtain ⟨h1, h2, h3, h4, h5, h6, h7⟩ := h
  exact ⟨h1, h2, h3, h4, h5, ⟨Nat.zero_le _, h6.2⟩, h7⟩
/-- what comes behind the question: nothing, or something -/
theorem akE_n {U : Tx} {p : Nat × Nat} {s : Rdg} (hlag : Lag U (.inr p) s) (hI : Ivr U s) (h : mC U (.inr p) = none) : akE U s = skM U (.inr p) := by
  obtain ⟨h1, h2⟩ := hlag
  have hc : cfT U p = false := by
    cases hz : cfT U p with
    | false => rfl
    | true =>
      obtain ⟨-, -, -, -, -, -, x, c7, -⟩ := cf_yes hz
      rw [h] at c7; cases c7
  cases s with
  | inl e =>
    have := cf_of (U := U) (p := p) (e := e) h1
    rw [hc] at this; cases this.1
  | inr q =>
    have e : p = q := Sum.inr.inj (h2 rfl)
    subst e
    obtain ⟨c1, c2, -⟩ := cf_no hI hc
    unfold akE
    rw [c2, h, if_pos rfl, c1]
theorem akE_s {U : Tx} {p : Nat × Nat} {s : Rdg} {c : Nat} (hlag : Lag U (.inr p) s) (hI : Ivr U s) (h : mC U (.inr p) = some c) : akE U s = .inl (1, skp U p.1) := by
  obtain ⟨h1, h2⟩ := hlag
  cases s with
  | inl e =>
    have h3 := (cf_of (U := U) (p := p) (e := e) h1).2
    subst h3; rfl
  | inr q =>
    have e : p = q := Sum.inr.inj (h2 rfl)
    subst e
    cases hz : cfT U p with
    | true =>
      obtain ⟨c1, c2, -⟩ := cf_yes hz
      unfold akE
      rw [c2, if_pos rfl, c1]
    | false =>
      obtain ⟨c1, c2, -⟩ := cf_no hI hz
      unfold akE
      rw [c2, h, if_neg (by intro z; cases z), c1]
      rfl
def cAs (q : Nat) : Bool := cQ q || c2A q
def fAr (j : Nat) : Bool := fTx j || fQ j || f2A j
def fAs (j : Nat) : Bool := fAr j || Nat.beq j 3 || Nat.beq j 1 || Nat.beq j 7 || Nat.beq j 8
theorem fAr_f {j : Nat} (h : fAr j = false) : fTx j = false ∧ fQ j = false ∧ f2A j = false := by
  unfold fAr at h
  simp only [Bool.or_eq_false_iff] at h
  exact ⟨h.1.1, h.1.2, h.2⟩
theorem fAs_f {j : Nat} (h : fAs j = false) : fAr j = false := by
  unfold fAs at h
  simp only [Bool.or_eq_false_iff] at h
  exact h.1.1.1.1
theorem cAs_f {q : Nat} (h : cAs q = false) : cQ q = false ∧ c2A q = false := Bool.or_eq_false_iff.mp h
theorem mx_ar {σ σ' : St} (h : MX σ σ') : MA cAs fAr σ σ' := (h.wk (C' := cAs) (Fd' := fAr) (fun _ _ => rfl) (fun j z => (fAr_f z).1)).ma
theorem mb_ar {σ σ' : St} (h : MB σ σ') : MA cAs fAr σ σ' := (h.wk (C' := cAs) (Fd' := fAr) (fun q z => (cAs_f z).1) (fun j z => by
  obtain ⟨z1, z2, -⟩ := fAr_f z
  unfold fQ at z2
  simp only [Bool.or_eq_false_iff] at z2
  unfold fNB fCW
  rw [z1, z2.1.1.1, z2.1.1.2, z2.1.2]; rfl)).ma
theorem ma_ar {σ σ' : St} (h : MA c2A f2A σ σ') : MA cAs fAr σ σ' := h.wk (fun q z => (cAs_f z).2) (fun j z => (fAr_f z).2.2)
theorem ar_as {σ σ' : St} (h : MA cAs fAr σ σ') : MA cAs fAs σ σ' := h.wk (fun q z => z) (fun j z => fAs_f z)
theorem as_put {σ : St} {f : Nat} (x : Int32) (h : fAs f = true) : MA cAs fAs σ (sI σ 324 (upd (σ.1 324) f x)) := (MF.put (C := cAs) x h).ma
theorem RM.ak {ρ : Rf} {σ σ' : St} {A : Ab} {E : Nat × Int32} (H : RM ρ σ A) (hs : MA cAs fAs σ σ') (ht : σ'.1 324 1 = nI 0) (he : σ'.1 324 7 = nI E.1 ∧ σ'.1 324 8 = E.2) : RM ρ σ' (mkA (aB A) (aN A) (aP A) (aF A) (aX A) (0, (aT A).2) (aR A) E (aG A)) := by
  have hm := hs.mf
  have H0 := H
  obtain ⟨h0, h1, h5, h6, h7, h8, h9, h10, h11, h12, h13⟩ := H
  have g : RM ρ (σ'.1, σ.2) (mkA (aB A) (aN A) (aP A) (aF A) (aX A) (0, (aT A).2) (aR A) E (aG A)) := by
    refine H0.chg hm rfl _ rfl ?_ ?_ (h7.mf hm rfl rfl) (h8.mf hm rfl rfl) h9 ⟨ht, fun j hj => absurd hj (Nat.not_lt_zero j)⟩ (fun j hj => ?_) he (h13.mf hm rfl rfl)
    · rw [hm.2.2 _ rfl, hm.2.2 _ rfl]; exact h5
    · rw [hm.1 363 (by decide) rfl]; exact h6
    · rw [hm.1 326 (by decide) rfl]; exact h11 j hj
  have en : σ'.2 355 = σ.2 355 := funext fun j => hs.2.1 _ j (by decide) (fun z => absurd z (by decide))
  have es : σ'.2 324 75 = σ.2 324 75 := hs.2.1 324 _ (by decide) (fun _ => by decide)
  obtain ⟨g0, ⟨g1, g2, g3, g4, g4', g4''⟩, g5, g6, g7, g8, g9, g10, g11, g12, g13⟩ := g
  refine ⟨g0, ⟨g1, g2, g3, ?_, ?_, g4''⟩, g5, g6, g7, g8, ?_, g10, g11, g12, g13⟩
  · rw [en]; exact g4
  · rw [en]; exact g4'
  · rw [es]; exact g9
theorem as_up {σ σ' : St} (h : MA cAs fAs σ σ') : upC σ σ' := fun q hq => h.1 q (by omega) (by
  unfold cAs cQ c2A
  rw [nbeq (by omega), nbeq (by omega), nbeq (by omega)]; rfl)
