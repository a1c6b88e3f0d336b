/-! A beach read by the reference: the whole call. -/
theorem lkV_m1 {o : Option Nat} (ho : ∀ x, o = some x → x < 256) : lkV o = -1 ↔ o = none := by
  cases o with
  | none => exact ⟨fun _ => rfl, fun _ => rfl⟩
  | some c => exact ⟨fun z => absurd z (nI_m1 (by have := ho c rfl; omega)), fun z => by cases z⟩
theorem aSg_0 {U : Tx} {c : Nat} {s : Rdg} {p : Nat × Nat} (h : aSg U c s = .inr p) : p.2 = 0 := by
  unfold aSg at h
  by_cases hc : lkC U s = some c
  · rw [if_pos hc] at h
    cases hl : lkS U s with
    | inl e => rw [hl] at h; cases h
    | inr q => rw [hl] at h; cases h; rfl
  · rw [if_neg hc] at h
    cases hl : lkS U s with
    | inl e => rw [hl] at h; cases h
    | inr q => rw [hl] at h; cases h
theorem cf_0 {U : Tx} {p : Nat × Nat} (h : p.2 = 0) : cfT U p = false := by
  have ht : tcN U p.1 p.2 = 0 := by unfold tcN; rw [h]; split <;> rfl
  unfold cfT cfl
  rw [ht]
  cases Nat.blt (skp U p.1) U.1 <;> rfl
/-- what is told at the end of a reading -/
def LpE (σ : St) (U : Tx) (Bo : Bh) (y : (Rdg × Bh) × Nat) : Prop := MTt σ U y.1.1 ∧ Wds σ ∧ MOld σ Bo ∧ (isOk y.1.1 = true → MNew σ y.1.2 ∧ σ.1 326 49 = nI y.2)
/-- the beach's reading, its answer, what then is -/
def bcY (A : Ab) : (Rdg × Bh) × Nat := bcR (aT A) 61 0 (.inr (0, 0), B00)
def rfN (R : Nat → Int32) (w : Nat) (j : Nat) : Int32 := if j = w then R j + 1 else R j
def bcV (A : Ab) : Int32 := match (bcY A).1.1 with
  | .inl _ => -1
  | .inr _ => nI (bcY A).2
def bcA (A : Ab) : Ab := match (bcY A).1.1 with
  | .inl e => mkA (aB A) (aN A) (aP A) (aF A) (aX A) (0, (aT A).2) (rfN (aR A) 1) (e.1, nI e.2) (aG A)
  | .inr _ => mkA (bcY A).1.2 (Mo0 (bcY A).1.2) (0, (aP A).2) (0, (aF A).2) (aX A) (0, (aT A).2) (aR A) (0, -1) (aG A)
theorem tx_A {A : Ab} (h : WfA A) : TxW (aT A) := h.2.2.2.2.2.1
theorem wf_0 (U : Tx) : WfZ U (.inr (0, 0), B00) := ⟨⟨Nat.zero_le _, Nat.zero_le _, fun z => (by cases z), fun z => (by cases z)⟩, fun _ => ⟨wf_B00, Nat.le_refl _⟩⟩
theorem wf_bcA {A : Ab} (h : WfA A) : WfA (bcA A) := by
  have hT := tx_A h
  obtain ⟨⟨hI, hB⟩, -⟩ := wf_bcR hT 61 0 (.inr (0, 0), B00) rfl (wf_0 _)
  obtain ⟨h1, h2, h3, h4, h5, h6, h7⟩ := h
  have hB : isOk (bcY A).1.1 = true → WfB (bcY A).1.2 ∧ flen (bcY A).1.2 ≤ rpos (bcY A).1.1 := hB
  unfold bcA
  cases hs : (bcY A).1.1 with
  | inl e => exact ⟨h1, h2, h3, h4, h5, ⟨Nat.zero_le _, h6.2⟩, h7⟩
  | inr p =>
    obtain ⟨b1, -⟩ := hB (by rw [hs]; rfl)
    exact ⟨b1, WfM_0 b1, ⟨Nat.zero_le _, fun k hk => absurd hk (Nat.not_lt_zero k)⟩, ⟨Nat.zero_le _, fun k hk => absurd hk (Nat.not_lt_zero k)⟩, h5, ⟨Nat.zero_le _, h6.2⟩, h7⟩
def fBe (j : Nat) : Bool := fRe j || Nat.beq j 49 || Nat.beq j 3 || Nat.beq j 1 || Nat.beq j 7 || Nat.beq j 8
/-- the same but for what the call touches ahead of its end -/
def MBf (σ σ' : St) : Prop := (∀ q, q ≠ 326 → cRe q = false → σ'.1 q = σ.1 q) ∧ (∀ q, q ≠ 357 → q ≠ 400 → σ'.2 q = σ.2 q) ∧ ∀ j, fBe j = false → σ'.1 326 j = σ.1 326 j
theorem MBf.tr {σ σ' σ'' : St} (h : MBf σ σ') (h2 : MBf σ' σ'') : MBf σ σ'' := ⟨fun q hq hc => (h2.1 q hq hc).trans (h.1 q hq hc), fun q hq hq2 => (h2.2.1 q hq hq2).trans (h.2.1 q hq hq2), fun j hj => (h2.2.2 j hj).trans (h.2.2 j hj)⟩
theorem fBe_f {j : Nat} (h : fBe j = false) : fRe j = false ∧ j ≠ 49 := by
  unfold fBe at h
  simp only [Bool.or_eq_false_iff] at h
  exact ⟨h.1.1.1.1.1, fun z => by rw [z] at h; exact absurd h.1.1.1.1.2 (by decide)⟩
theorem MBe.f {σ σ' : St} (h : MBe σ σ') : MBf σ σ' := ⟨h.1, h.2.1, fun j hj => h.2.2 j (fBe_f hj).1 (fBe_f hj).2⟩
theorem MBf.put {σ : St} {f : Nat} (x : Int32) (hf : fBe f = true) : MBf σ (sI σ 326 (upd (σ.1 326) f x)) := ⟨fun q hq _ => sR_1 _ _ hq, fun _ _ _ => rfl, fun j hj => by rw [sR_0, pk_un (fun z => by rw [z, hf] at hj; cases hj)]⟩
theorem MBf.cell {σ : St} {k : Nat} (f : Nat → Int32) (hk : k ≠ 326) (hC : cRe k = true) : MBf σ (sI σ k f) := (MRe.cell f hk hC).be.f
section S88zza
variable {l : Launch} {X : Cx} {ρ : Rf} {U : Tx} {Bo B : Bh}
theorem m_beachBad (d : Nat) {σ : St} {e : Nat × Nat} (H : MTt σ U (.inl e)) (L1 : Value) {Q : Po} (hQ : Ev l X d 189 105 [.ref 326, L1] [] 402 402 402 ρ σ Q) : Ev l X d 189 83 [.ref 326, L1] [] 402 402 402 ρ σ Q := by
  obtain ⟨z, hz, hz0⟩ := H.badE
  refine Ev_aload rfl rfl rfl ?_
  refine Ev_getI rfl (by first | rfl | assumption) ?_
  refine Ev_norm hz ?_
  refine Ev_if_ne rfl (fun h87 => ?_) (fun h87 => absurd hz0 h87)
  exact hQ
theorem m_beachLoop (d : Nat) (hρ : RF ρ) (hT : TxW U) {σ0 : St} {L1 : Value} {Q : Po} : ∀ (m c : Nat) (x : Rdg × Bh) (σ : St), m + c = 61 → c ≤ 60 → WfZ U x → (∀ p, x.1 = .inr p → p.2 = 0) → LpE σ U Bo (x, c) → MBe σ0 σ →
    (∀ σ', LpE σ' U Bo (bcR U m c x) → MBe σ0 σ' → Ev l X (d + 11) 189 105 [.ref 326, L1] [] 402 402 402 ρ σ' Q) →
    Ev l X (d + 11) 189 83 [.ref 326, L1] [] 402 402 402 ρ σ Q := by
  intro m
  induction m with
  | zero => intro c x σ h1 h2; omega
  | succ m ih =>
    intro c x σ hm hc hwf hz hE hM hQ
    obtain ⟨s, B⟩ := x
    have ebc : bcR U (m + 1) c (s, B) = if lkC U s = none then ((lkS U s, B), c) else if c = 60 then ((flP 5 (rpos (lkS U s)) (lkS U s), B), c) else bcR U m (c + 1) (stS U (lkS U s, B)) := rfl
    rw [ebc] at hQ
    obtain ⟨hs, hW, hO, hN⟩ := hE
    cases s with
    | inl e => exact m_beachBad _ hs L1 (hQ σ ⟨hs, hW, hO, fun z => by cases z⟩ hM)
    | inr p =>
      have hs : MTt σ U (.inr p) := hs
      obtain ⟨hN1, hN2⟩ := hN rfl
      obtain ⟨hI, hB⟩ := hwf
      obtain ⟨hB1, hB2⟩ := hB rfl
      have hcf := cf_0 (U := U) (hz p rfl)
      have hS : MSt σ U Bo B (.inr p) := ⟨hs, hW, hO, hN1⟩
      obtain ⟨c1, c2, c3, -⟩ := cf_no hI hcf
      have hev := lkV_m1 (mC_256 hT (s := .inr p))
      cases hmc : mC U (.inr p) with
      | none =>
        rw [if_pos (by rw [c2, hmc]), c1] at hQ
        refine Ev_aload rfl rfl rfl ?_
        refine Ev_getI rfl (by first | rfl | assumption) ?_
        refine Ev_norm hs.bad0 ?_
        refine Ev_if_ne rfl (fun h87 => absurd rfl h87) (fun h87 => ?_)
        refine Ev_aload rfl rfl rfl ?_
        refine Ev_callV rfl rfl rfl rfl rfl (same_n 402) (m_look _ hρ hT hs) ?_
        rintro v91 ρ91 σ91 ⟨⟨v, rfl, hv⟩, e91, s91, c91⟩
        obtain rfl := e91.symm
        have hv := hv rfl
        subst hv
        refine Ev_const rfl ?_
        refine Ev_icmp_eq rfl (fun h95 => ?_) (fun h95 => absurd (hev.mpr hmc) h95)
        exact hQ σ91 ⟨s91, hW.mx c91, (hS.mx s91 c91).2.2.1, fun _ => ⟨(hS.mx s91 c91).2.2.2, by rw [c91.2.2 _ rfl]; exact hN2⟩⟩ (hM.tr c91.k.be)
      | some ch =>
        have hlc : lkC U (.inr p) = some ch := by rw [c2, hmc]
        have hls : lkS U (.inr p) = .inr (skp U p.1, tcN U p.1 p.2) := c1
        rw [if_neg (by rw [hlc]; intro z; cases z), hls] at hQ
        have hL : LkO U (skp U p.1, tcN U p.1 p.2) := LkO.of (by rw [← hls]; exact Ivr_lk hI) (by rw [← hls, lkS_i])
        have hup := skp_up U p.1
        have hB2 : flen B ≤ p.1 := hB2
        refine Ev_aload rfl rfl rfl ?_
        refine Ev_getI rfl (by first | rfl | assumption) ?_
        refine Ev_norm hs.bad0 ?_
        refine Ev_if_ne rfl (fun h87 => absurd rfl h87) (fun h87 => ?_)
        refine Ev_aload rfl rfl rfl ?_
        refine Ev_callV rfl rfl rfl rfl rfl (same_n 402) (m_look _ hρ hT hs) ?_
        rintro v91 ρ91 σ91 ⟨⟨v, rfl, hv⟩, e91, s91, c91⟩
        obtain rfl := e91.symm
        have hv := hv rfl
        subst hv
        refine Ev_const rfl ?_
        refine Ev_icmp_eq rfl (fun h95 => absurd (hev.mp h95) (by rw [hmc]; intro z; cases z)) (fun h95 => ?_)
        refine Ev_aload rfl rfl rfl ?_
        refine Ev_callV rfl rfl rfl rfl rfl (same_n 402) (m_statementTold _ (p := (skp U p.1, tcN U p.1 p.2)) (c := c) hρ hT hB1 (by show flen B ≤ skp U p.1; omega) hL hc (hS.mx s91 c91) (by rw [c91.2.2 _ rfl]; exact hN2)) ?_
        rintro v99 ρ99 σ99 ⟨rfl, e99, s99, w99, o99, n99, b99⟩
        obtain rfl := e99.symm
        refine Ev_goto rfl ?_
        have hM2 := (hM.tr c91.k.be).tr b99
        by_cases h60 : c = 60
        · rw [if_pos h60] at s99 hQ
          exact m_beachBad _ s99 L1 (hQ σ99 ⟨s99, w99, o99, fun z => by cases z⟩ hM2)
        · rw [if_neg h60] at s99 n99 hQ
          refine ih (c + 1) _ σ99 (by omega) (by omega) (wf_stS hT ?_) (fun q hq => aSg_0 hq) ⟨s99, w99, o99, n99⟩ hM2 hQ
          rw [← hls]
          exact wf_lk ⟨hI, hB⟩
/-- none of a kind, to begin with -/
theorem m_bMany (d : Nat) (hρ : RF ρ) {σ0 : St} {Q : Po} (hQ : ∀ σ' L, (∀ j, j < 5 → σ'.1 356 j = nI 0) → (∀ j, 5 ≤ j → σ'.1 356 j = σ0.1 356 j) → M1 356 σ0 σ' → Ev l X d 189 58 [.ref 326, L] [] 402 402 402 ρ σ' Q) :
    ∀ (m k : Nat) (σ : St), k + m = 5 → (∀ j, j < k → σ.1 356 j = nI 0) → (∀ j, 5 ≤ j → σ.1 356 j = σ0.1 356 j) → M1 356 σ0 σ → Ev l X d 189 40 [.ref 326, .int (nI k)] [] 402 402 402 ρ σ Q := by
  intro m
  induction m with
  | zero =>
    intro k σ hm h1 h2 h3
    obtain rfl : k = 5 := by omega
    refine Ev_iload rfl rfl ?_
    refine Ev_const rfl ?_
    refine Ev_icmp_ge rfl (fun h42 => ?_) (fun h42 => absurd (nI_le (a := 5) (b := 5) (by omega) (by omega)) h42)
    exact hQ σ _ h1 h2 h3
  | succ m ih =>
    intro k σ hm h1 h2 h3
    refine Ev_iload rfl rfl ?_
    refine Ev_const rfl ?_
    refine Ev_icmp_ge rfl (fun h42 => absurd h42 (nI_ge (b := 5) (by omega) (by omega))) (fun h42 => ?_)
    refine Ev_aload rfl rfl rfl ?_
    refine Ev_getR rfl (by first | rfl | assumption) (hρ _ _ _ rfl) ?_
    refine Ev_iload rfl rfl ?_
    refine Ev_const rfl ?_
    refine Ev_iast rfl (by first | rfl | assumption) (vp_in_nI (n := k) (show k < 10 by omega) (by decide)) ?_
    refine Ev_iincE rfl rfl (nI_1 k) ?_
    refine Ev_goto rfl ?_
    rw [nI_clamp (show k < 2 ^ 31 by omega)]
    refine ih (k + 1) _ (by omega) (fun j hj => ?_) (fun j hj => ?_) (h3.tr (MF.cell _ (by decide) rfl))
    · rw [sR_0]
      by_cases hz : j = k
      · rw [hz, pk_us]; rfl
      · rw [pk_un hz]; exact h1 j (by omega)
    · rw [sR_0, pk_un (by omega)]; exact h2 j hj
theorem m_bFrom (d : Nat) (hρ : RF ρ) {σ0 : St} {Q : Po} (hQ : ∀ σ' L, (∀ j, j < 4 → σ'.1 362 j = -1) → (∀ j, 4 ≤ j → σ'.1 362 j = σ0.1 362 j) → M1 362 σ0 σ' → Ev l X d 189 78 [.ref 326, L] [] 402 402 402 ρ σ' Q) :
    ∀ (m k : Nat) (σ : St), k + m = 4 → (∀ j, j < k → σ.1 362 j = -1) → (∀ j, 4 ≤ j → σ.1 362 j = σ0.1 362 j) → M1 362 σ0 σ → Ev l X d 189 60 [.ref 326, .int (nI k)] [] 402 402 402 ρ σ Q := by
  intro m
  induction m with
  | zero =>
    intro k σ hm h1 h2 h3
    obtain rfl : k = 4 := by omega
    refine Ev_iload rfl rfl ?_
    refine Ev_const rfl ?_
    refine Ev_icmp_ge rfl (fun h62 => ?_) (fun h62 => absurd (nI_le (a := 4) (b := 4) (by omega) (by omega)) h62)
    exact hQ σ _ h1 h2 h3
  | succ m ih =>
    intro k σ hm h1 h2 h3
    refine Ev_iload rfl rfl ?_
    refine Ev_const rfl ?_
    refine Ev_icmp_ge rfl (fun h62 => absurd h62 (nI_ge (b := 4) (by omega) (by omega))) (fun h62 => ?_)
    refine Ev_aload rfl rfl rfl ?_
    refine Ev_getR rfl (by first | rfl | assumption) (hρ _ _ _ rfl) ?_
    refine Ev_iload rfl rfl ?_
    refine Ev_const rfl ?_
    refine Ev_iast rfl (by first | rfl | assumption) (vp_in_nI (n := k) (show k < 8 by omega) (by decide)) ?_
    refine Ev_iincE rfl rfl (nI_1 k) ?_
    refine Ev_goto rfl ?_
    rw [nI_clamp (show k < 2 ^ 31 by omega)]
    refine ih (k + 1) _ (by omega) (fun j hj => ?_) (fun j hj => ?_) (h3.tr (MF.cell _ (by decide) rfl))
    · rw [sR_0]
      by_cases hz : j = k
      · rw [hz, pk_us]
      · rw [pk_un hz]; exact h1 j (by omega)
    · rw [sR_0, pk_un (by omega)]; exact h2 j hj
theorem m_bNext (d : Nat) {σ : St} {L : Value} {Q : Po} (hQ : Ev l X d 189 60 [.ref 326, .int (nI 0)] [] 402 402 402 ρ σ Q) : Ev l X d 189 58 [.ref 326, L] [] 402 402 402 ρ σ Q := by
  refine Ev_const rfl ?_
  refine Ev_istore rfl ?_
  exact hQ
theorem m_bBegin (d : Nat) {σ : St} {L : Value} {Q : Po} (hQ : Ev l X d 189 83 [.ref 326, L] [] 402 402 402 ρ (sI σ 326 (upd (σ.1 326) 49 (nI 0))) Q) : Ev l X d 189 78 [.ref 326, L] [] 402 402 402 ρ σ Q := by
  refine Ev_aload rfl rfl rfl ?_
  refine Ev_const rfl ?_
  refine Ev_putI rfl (by first | rfl | assumption) ⟨rfl, rfl⟩ rfl ?_
  exact hQ
theorem upC_of {σ σ' : St} (h : ∀ q, q < 326 → σ'.1 q = σ.1 q) : upC σ σ' := h
theorem m_beach (d : Nat) {σ : St} {A : Ab} (hA : WfA A) (hM : RM ρ σ A) :
    T l X (d + 11) 189 [.ref 326] 402 402 ρ σ (fun v ρ' σ' => v = some (.int (bcV A)) ∧ ρ' = ρ ∧ upC σ σ' ∧ RM ρ' σ' (bcA A)) := by
  have hM0 := hM
  obtain ⟨hρ, ⟨r1, r2, r3, r4, r5, r6⟩, r7, r8, r9, r10, r11, r12, r13, r14, r15⟩ := hM
  have hT := tx_A hA
  -- from the end of the reading on
  have fin : ∀ (σ2 : St) (L : Value), LpE σ2 (aT A) (aB A) (bcY A) → MBf σ σ2 → σ2.1 326 1 = nI 0 → Ev l X (d + 11) 189 105 [.ref 326, L] [] 402 402 402 ρ σ2 (fun v ρ' σ' => v = some (.int (bcV A)) ∧ ρ' = ρ ∧ upC σ σ' ∧ RM ρ' σ' (bcA A)) := by
    rintro σ2 L ⟨hs, hW, hO, hN⟩ hF htp
    have hcells : ∀ q, q ≠ 326 → cRe q = false → σ2.1 q = σ.1 q := hF.1
    unfold bcV bcA
    cases he : (bcY A).1.1 with
    | inl e =>
      rw [he] at hs
      obtain ⟨t1, t2, t3, t4, t5, b, t6, t7⟩ := hs
      refine Ev_aload rfl rfl rfl ?_
      refine Ev_aload rfl rfl rfl ?_
      refine Ev_getI rfl (by first | rfl | assumption) ?_
      refine Ev_norm t3 ?_
      refine Ev_putI rfl (by first | rfl | assumption) ⟨rfl, rfl⟩ rfl ?_
      refine Ev_aload rfl rfl rfl ?_
      refine Ev_aload rfl rfl rfl ?_
      refine Ev_getI rfl (by first | rfl | assumption) ?_
      refine Ev_norm (by rw [sR_0, pk_un (by decide)]; exact t4 : _ = nI e.2) ?_
      refine Ev_putI rfl (by first | rfl | assumption) ⟨rfl, rfl⟩ rfl ?_
      refine Ev_aload rfl rfl rfl ?_
      refine Ev_getI rfl (by first | rfl | assumption) ?_
      refine Ev_norm (by rw [sR_0, pk_un (by decide), sR_0, pk_un (by decide)]; exact t3 : _ = nI e.1) ?_
      refine Ev_if_eq rfl (fun h125 => absurd h125 (nI_ne0 t5.1 (by omega))) (fun h125 => ?_)
      refine Ev_aload rfl rfl rfl ?_
      refine Ev_getR rfl (by first | rfl | assumption) (hρ _ _ _ rfl) ?_
      refine Ev_const rfl ?_
      refine Ev_dup2 rfl (fun _ q => nomatch q) (fun _ q => nomatch q) ?_
      refine Ev_iald rfl (by first | rfl | assumption) (vp_in_nI (n := 1) (by decide) (by decide)) ?_
      refine Ev_const rfl ?_
      refine Ev_iadd rfl ?_
      refine Ev_iast rfl (by first | rfl | assumption) (vp_in_nI (n := 1) (by decide) (by decide)) ?_
      refine Ev_const rfl ?_
      exact Ev_ireturn rfl rfl rfl rfl (by
      have e1 : (1 : Int32).toNatClampNeg = 1 := rfl
      rw [e1]
      generalize hσ3 : sI (sI (sI σ2 326 (upd (σ2.1 326) 7 (nI e.1))) 326 _) 328 _ = σ3
      have ec : ∀ q, q ≠ 326 → q ≠ 328 → σ3.1 q = σ2.1 q := fun q q1 q2 => by rw [← hσ3, sR_1 _ _ q2, sR_1 _ _ q1, sR_1 _ _ q1]
      have ef : ∀ j, j ≠ 7 → j ≠ 8 → σ3.1 326 j = σ2.1 326 j := fun j j1 j2 => by rw [← hσ3, sR_1 _ _ (by decide), sR_0, pk_un j2, sR_0, pk_un j1]
      have e7 : σ3.1 326 7 = nI e.1 := by rw [← hσ3, sR_1 _ _ (by decide), sR_0, pk_un (by decide), sR_0, pk_us]
      have e8 : σ3.1 326 8 = nI e.2 := by rw [← hσ3, sR_1 _ _ (by decide), sR_0, pk_us]
      have er : ∀ j, σ3.1 328 j = rfN (σ2.1 328) 1 j := fun j => by
        rw [← hσ3, sR_0, sR_1 _ _ (by decide), sR_1 _ _ (by decide)]
        unfold rfN
        by_cases hz : j = 1
        · rw [if_pos hz, hz, pk_us]
        · rw [if_neg hz, pk_un hz]
      have el : σ3.2 = σ2.2 := by rw [← hσ3]; rfl
      clear hσ3
      have eC : ∀ q, q ≠ 326 → q ≠ 328 → cRe q = false → σ3.1 q = σ.1 q := fun q q1 q2 q3 => (ec q q1 q2).trans (hcells q q1 q3)
      have eF : ∀ j, fBe j = false → σ3.1 326 j = σ.1 326 j := fun j hj => (ef j (fun z => by rw [z] at hj; exact absurd hj (by decide)) (fun z => by rw [z] at hj; exact absurd hj (by decide))).trans (hF.2.2 j hj)
      refine ⟨rfl, rfl, fun q hq => eC q (by omega) (by omega) ?_, hρ, ⟨?_, ?_, ?_, ?_, ?_, hW.eq (fun p hp => ?_)⟩, ?_, ?_, ?_, ?_, ?_, ?_, ?_, ⟨e7, e8⟩, ?_⟩
      · unfold cRe cQ
        simp only [Bool.or_eq_false_iff]
        exact ⟨⟨⟨⟨⟨⟨⟨⟨nbeq (by omega), nbeq (by omega)⟩, nbeq (by omega)⟩, nbeq (by omega)⟩, nbeq (by omega)⟩, nbeq (by omega)⟩, nbeq (by omega)⟩, nbeq (by omega)⟩, nbeq (by omega), nbeq (by omega)⟩
      · exact (hO.eq (σ' := σ3) (fun q hq => ec q (by simp only [List.mem_cons, List.not_mem_nil, or_false] at hq; omega) (by simp only [List.mem_cons, List.not_mem_nil, or_false] at hq; omega)) (by rw [el])).1
      · exact (hO.eq (σ' := σ3) (fun q hq => ec q (by simp only [List.mem_cons, List.not_mem_nil, or_false] at hq; omega) (by simp only [List.mem_cons, List.not_mem_nil, or_false] at hq; omega)) (by rw [el])).2.1
      · exact (hO.eq (σ' := σ3) (fun q hq => ec q (by simp only [List.mem_cons, List.not_mem_nil, or_false] at hq; omega) (by simp only [List.mem_cons, List.not_mem_nil, or_false] at hq; omega)) (by rw [el])).2.2.1
      · intro i hi; rw [el]; exact hO.2.2.2.1 i hi
      · intro i hi; rw [el]; exact hO.2.2.2.2 i hi
      · exact ec p.1 (by have := (wdS_ok p hp).1; omega) ((show ∀ p, p ∈ wdS → p.1 ≠ 328 by decide) p hp)
      · rw [eF _ rfl, eF _ rfl]; exact r7
      · rw [eC _ (by decide) (by decide) rfl]; exact r8
      · unfold MPas; rw [eF _ rfl, eF _ rfl, eC _ (by decide) (by decide) rfl]; exact r9
      · unfold MFnd; rw [eF _ rfl, eC _ (by decide) (by decide) rfl]; exact r10
      · rw [el, hF.2.1 _ (by decide) (by decide)]; exact r11
      · exact ⟨(ef _ (by decide) (by decide)).trans htp, fun j hj => absurd hj (Nat.not_lt_zero j)⟩
      · intro j hj
        rw [er j]
        show rfN _ 1 j = rfN (aR A) 1 j
        unfold rfN
        rw [hcells _ (by decide) rfl, r13 j hj]
      · unfold MImg; rw [eF _ rfl, eC _ (by decide) (by decide) rfl]; exact r15)
    | inr p =>
      rw [he] at hs
      have hok : isOk (bcY A).1.1 = true := by rw [he]; rfl
      obtain ⟨hN1, hN2⟩ := hN hok
      obtain ⟨-, hB⟩ := (wf_bcR hT 61 0 (.inr (0, 0), B00) rfl (wf_0 _)).1
      obtain ⟨hB1, hB2⟩ := hB hok
      have hB1 : WfB (bcY A).1.2 := hB1
      have hB2 : flen (bcY A).1.2 ≤ rpos (bcY A).1.1 := hB2
      rw [he] at hB2
      have hB2 : flen (bcY A).1.2 ≤ p.1 := hB2
      have hp16 : p.1 ≤ 1600 := Nat.le_trans hs.2.2.1 hT.1
      have t3 := hs.bad0
      have t4 : σ2.1 326 6 = -1 := hs.2.2.2.2.2.2.2.2
      refine Ev_aload rfl rfl rfl ?_
      refine Ev_aload rfl rfl rfl ?_
      refine Ev_getI rfl (by first | rfl | assumption) ?_
      refine Ev_norm t3 ?_
      refine Ev_putI rfl (by first | rfl | assumption) ⟨rfl, rfl⟩ rfl ?_
      refine Ev_aload rfl rfl rfl ?_
      refine Ev_aload rfl rfl rfl ?_
      refine Ev_getI rfl (by first | rfl | assumption) ?_
      refine Ev_norm (by rw [sR_0, pk_un (by decide)]; exact t4 : _ = (-1 : Int32)) ?_
      refine Ev_putI rfl (by first | rfl | assumption) ⟨rfl, rfl⟩ rfl ?_
      refine Ev_aload rfl rfl rfl ?_
      refine Ev_getI rfl (by first | rfl | assumption) ?_
      refine Ev_norm (by rw [sR_0, pk_un (by decide), sR_0, pk_un (by decide)]; exact t3 : _ = (0 : Int32)) ?_
      refine Ev_if_eq rfl (fun h125 => ?_) (fun h125 => absurd rfl h125)
      refine Ev_aload rfl rfl rfl ?_
      generalize hσ3 : sI (sI σ2 326 (upd (σ2.1 326) 7 0)) 326 _ = σ3
      have ec : ∀ q, q ≠ 326 → σ3.1 q = σ2.1 q := fun q q1 => by rw [← hσ3, sR_1 _ _ q1, sR_1 _ _ q1]
      have ef : ∀ j, j ≠ 7 → j ≠ 8 → σ3.1 326 j = σ2.1 326 j := fun j j1 j2 => by rw [← hσ3, sR_0, pk_un j2, sR_0, pk_un j1]
      have e7 : σ3.1 326 7 = nI 0 := by rw [← hσ3, sR_0, pk_un (by decide), sR_0, pk_us]; rfl
      have e8 : σ3.1 326 8 = -1 := by rw [← hσ3, sR_0, pk_us]
      have el : σ3.2 = σ2.2 := by rw [← hσ3]; rfl
      clear hσ3
      have hN3 : MNew σ3 (bcY A).1.2 := hN1.eq (fun q hq => ec q (by simp only [List.mem_cons, List.not_mem_nil, or_false] at hq; omega)) (by rw [el]) (ef _ (by decide) (by decide))
      refine Ev_callV rfl rfl rfl rfl rfl (same_n 402) (m_stands _ hρ hB1 (by omega) hN3) ?_
      rintro v141 ρ141 σ141 ⟨rfl, e141, o141, m141, u141, w141, x141, y141, z141⟩
      obtain rfl := e141.symm
      refine Ev_aload rfl rfl rfl ?_
      refine Ev_getI rfl (by first | rfl | assumption) ?_
      refine Ev_norm (by rw [z141 _ (by decide) (by decide), ef _ (by decide) (by decide)]; exact hN2 : _ = nI (bcY A).2) ?_
      exact Ev_ireturn rfl rfl rfl rfl (by
      have eC : ∀ q, q ≠ 326 → cSd q = false → cRe q = false → σ141.1 q = σ.1 q := fun q q1 q2 q3 => ((x141 q q1 q2).trans (ec q q1)).trans (hcells q q1 q3)
      have eF : ∀ j, fBe j = false → j ≠ 73 → j ≠ 69 → σ141.1 326 j = σ.1 326 j := fun j hj j1 j2 => ((z141 j j1 j2).trans (ef j (fun z => by rw [z] at hj; exact absurd hj (by decide)) (fun z => by rw [z] at hj; exact absurd hj (by decide)))).trans (hF.2.2 j hj)
      obtain ⟨q1, q2, q3, q4, q5⟩ := o141
      refine ⟨rfl, rfl, fun q hq => eC q (by omega) ?_ ?_, hρ, ⟨q1, q2, q3, q4, q5, hW.eq (fun p hp => ?_)⟩, ?_, m141, ?_, ?_, ?_, ?_, ?_, ⟨?_, ?_⟩, ?_⟩
      · unfold cSd
        simp only [Bool.or_eq_false_iff]
        exact ⟨⟨⟨⟨⟨⟨⟨nbeq (by omega), nbeq (by omega)⟩, nbeq (by omega)⟩, nbeq (by omega)⟩, nbeq (by omega)⟩, nbeq (by omega)⟩, nbeq (by omega)⟩, nbeq (by omega)⟩
      · unfold cRe cQ
        simp only [Bool.or_eq_false_iff]
        exact ⟨⟨⟨⟨⟨⟨⟨⟨nbeq (by omega), nbeq (by omega)⟩, nbeq (by omega)⟩, nbeq (by omega)⟩, nbeq (by omega)⟩, nbeq (by omega)⟩, nbeq (by omega)⟩, nbeq (by omega)⟩, nbeq (by omega), nbeq (by omega)⟩
      · rw [x141 p.1 (by have := (wdS_ok p hp).1; omega) ((show ∀ p, p ∈ wdS → cSd p.1 = false by decide) p hp)]
        exact ec p.1 (by have := (wdS_ok p hp).1; omega)
      · rw [eF _ rfl (by decide) (by decide), eF _ rfl (by decide) (by decide)]; exact r7
      · obtain ⟨w, hw1, hw2, hw3⟩ := r9.2
        exact ⟨u141, w, hw1, by rw [eF _ rfl (by decide) (by decide)]; exact hw2, fun k hk => absurd hk (Nat.not_lt_zero k)⟩
      · exact ⟨w141, fun j hj => absurd hj (by show ¬ j < 4 * 0; omega)⟩
      · rw [y141 _ (by decide) (by decide), el, hF.2.1 _ (by decide) (by decide)]; exact r11
      · exact ⟨((z141 _ (by decide) (by decide)).trans (ef _ (by decide) (by decide))).trans htp, fun j hj => absurd hj (Nat.not_lt_zero j)⟩
      · rw [eC _ (by decide) rfl rfl]; exact r13
      · rw [z141 _ (by decide) (by decide)]; exact e7
      · rw [z141 _ (by decide) (by decide)]; exact e8
      · unfold MImg; rw [eF _ rfl (by decide) (by decide), eC _ (by decide) rfl rfl]; exact r15)
  refine T_of rfl ?_
  refine Ev_aload rfl rfl rfl ?_
  refine Ev_aload rfl rfl rfl ?_
  refine Ev_getI rfl (by first | rfl | assumption) ?_
  refine Ev_norm r12.1 ?_
  refine Ev_putI rfl (by first | rfl | assumption) ⟨rfl, rfl⟩ rfl ?_
  refine Ev_aload rfl rfl rfl ?_
  refine Ev_const rfl ?_
  refine Ev_putI rfl (by first | rfl | assumption) ⟨rfl, rfl⟩ rfl ?_
  refine Ev_aload rfl rfl rfl ?_
  refine Ev_const rfl ?_
  refine Ev_putI rfl (by first | rfl | assumption) ⟨rfl, rfl⟩ rfl ?_
  refine Ev_aload rfl rfl rfl ?_
  refine Ev_const rfl ?_
  refine Ev_putI rfl (by first | rfl | assumption) ⟨rfl, rfl⟩ rfl ?_
  refine Ev_aload rfl rfl rfl ?_
  refine Ev_const rfl ?_
  refine Ev_putI rfl (by first | rfl | assumption) ⟨rfl, rfl⟩ rfl ?_
  refine Ev_aload rfl rfl rfl ?_
  refine Ev_const rfl ?_
  refine Ev_putI rfl (by first | rfl | assumption) ⟨rfl, rfl⟩ rfl ?_
  refine Ev_aload rfl rfl rfl ?_
  refine Ev_const rfl ?_
  refine Ev_putI rfl (by first | rfl | assumption) ⟨rfl, rfl⟩ rfl ?_
  generalize hσ1 : sI (sI (sI (sI (sI (sI (sI σ 326 _) 326 _) 326 _) 326 _) 326 _) 326 _) 326 _ = σ1
  have e324 : σ1.1 326 = upd (upd (upd (upd (upd (upd (upd (σ.1 326) 3 (nI (aT A).1)) 1 (nI 0)) 2 (nI 0)) 4 (-1)) 5 0) 6 (-1)) 48 (nI 0) := by rw [← hσ1, sR_0, sR_0, sR_0, sR_0, sR_0, sR_0, sR_0]; rfl
  have ec : ∀ q, q ≠ 326 → σ1.1 q = σ.1 q := fun q hq => by rw [← hσ1, sR_1 _ _ hq, sR_1 _ _ hq, sR_1 _ _ hq, sR_1 _ _ hq, sR_1 _ _ hq, sR_1 _ _ hq, sR_1 _ _ hq]
  have el : σ1.2 = σ.2 := by rw [← hσ1]; rfl
  clear hσ1
  have hm1 : MBf σ σ1 := ⟨fun q hq _ => ec q hq, fun q _ _ => by rw [el], fun j hj => by rw [e324, pk_un (by intro z; rw [z] at hj; exact absurd hj (by decide)), pk_un (by intro z; rw [z] at hj; exact absurd hj (by decide)), pk_un (by intro z; rw [z] at hj; exact absurd hj (by decide)), pk_un (by intro z; rw [z] at hj; exact absurd hj (by decide)), pk_un (by intro z; rw [z] at hj; exact absurd hj (by decide)), pk_un (by intro z; rw [z] at hj; exact absurd hj (by decide)), pk_un (by intro z; rw [z] at hj; exact absurd hj (by decide))]⟩
  refine Ev_const rfl ?_
  refine Ev_istore rfl ?_
  refine m_bMany (d + 11) hρ (fun σ2 L2 a2 b2 c2 => ?_) 5 0 σ1 rfl (fun j hj => absurd hj (Nat.not_lt_zero j)) (fun _ _ => rfl) (MF.rf _ _ _)
  refine m_bNext _ ?_
  refine m_bFrom (d + 11) hρ (fun σ3 L3 a3 b3 c3 => ?_) 4 0 σ2 rfl (fun j hj => absurd hj (Nat.not_lt_zero j)) (fun _ _ => rfl) (MF.rf _ _ _)
  refine m_bBegin _ ?_
  have k2 : ∀ q, q ≠ 326 → q ≠ 356 → σ2.1 q = σ1.1 q := fun q q1 q2 => c2.1 q q1 (nbeq q2)
  have k3 : ∀ q, q ≠ 326 → q ≠ 362 → σ3.1 q = σ2.1 q := fun q q1 q2 => c3.1 q q1 (nbeq q2)
  have f3 : σ3.1 326 = σ1.1 326 := funext fun j => (c3.2.2 j rfl).trans (c2.2.2 j rfl)
  have l3 : ∀ q, q ≠ 400 → σ3.2 q = σ.2 q := fun q hq => by rw [c3.2.1 q hq, c2.2.1 q hq, el]
  have m3 : MBf σ σ3 := hm1.tr ⟨fun q q1 q2 => by
    unfold cRe at q2
    simp only [Bool.or_eq_false_iff] at q2
    have nb : ∀ {x y : Nat}, Nat.beq x y = false → x ≠ y := fun h z => by rw [z, Nat.beq_refl] at h; cases h
    rw [k3 q q1 (nb q2.1.1.1.2), k2 q q1 (nb q2.1.1.1.1.1.1.1.1)], fun q _ q2 => by rw [c3.2.1 q q2, c2.2.1 q q2], fun j _ => by rw [f3]⟩
  generalize hσ4 : sI σ3 326 (upd (σ3.1 326) 49 (nI 0)) = σ4
  have c4 : ∀ q, q ≠ 326 → σ4.1 q = σ3.1 q := fun q hq => by rw [← hσ4, sR_1 _ _ hq]
  have f4 : ∀ j, j ≠ 49 → σ4.1 326 j = σ1.1 326 j := fun j hj => by rw [← hσ4, sR_0, pk_un hj, f3]
  have s4 : σ4.1 326 49 = nI 0 := by rw [← hσ4, sR_0, pk_us]
  have l4 : σ4.2 = σ3.2 := by rw [← hσ4]; rfl
  have m4 : MBf σ σ4 := by rw [← hσ4]; exact m3.tr (MBf.put _ rfl)
  clear hσ4
  have hTt : MTt σ4 (aT A) (.inr (0, 0)) := by
    refine ⟨?_, fun j hj => ?_, Nat.zero_le _, Nat.zero_le _, ?_, ?_, ⟨fun z => ?_, fun z => absurd rfl z⟩, ?_, ?_⟩
    · rw [f4 _ (by decide), e324, pk_un (by decide), pk_un (by decide), pk_un (by decide), pk_un (by decide), pk_un (by decide), pk_un (by decide), pk_us]
    · rw [c4 _ (by decide), k3 _ (by decide) (by decide), k2 _ (by decide) (by decide), ec _ (by decide)]; exact r12.2 j hj
    · rw [f4 _ (by decide), e324, pk_un (by decide), pk_un (by decide), pk_un (by decide), pk_un (by decide), pk_us]
    · rw [f4 _ (by decide), e324, pk_un (by decide), pk_un (by decide), pk_un (by decide), pk_us]; decide
    · rw [f4 _ (by decide), e324, pk_un (by decide), pk_un (by decide), pk_un (by decide), pk_us] at z; exact absurd z (by decide)
    · rw [f4 _ (by decide), e324, pk_un (by decide), pk_un (by decide), pk_us]
    · rw [f4 _ (by decide), e324, pk_un (by decide), pk_us]
  have hW4 : Wds σ4 := r6.eq (fun p hp => m4.1 p.1 (by have := (wdS_ok p hp).1; omega) ((show ∀ p, p ∈ wdS → cRe p.1 = false by decide) p hp))
  have hO4 : MOld σ4 (aB A) := by
    refine MOld.up (σ := σ) ⟨r1, r2, r3, r4, r5⟩ (fun j hj => ?_) (fun j hj => ⟨?_, ?_⟩) (fun j hj => ?_) (fun j hj => ⟨?_, ?_⟩) (fun j hj => ?_) (fun j hj => ?_)
    · rw [c4 _ (by decide), k3 _ (by decide) (by decide), b2 j hj, ec _ (by decide)]
    · rw [c4 _ (by decide), k3 _ (by decide) (by decide), k2 _ (by decide) (by decide), ec _ (by decide)]
    · rw [c4 _ (by decide), k3 _ (by decide) (by decide), k2 _ (by decide) (by decide), ec _ (by decide)]
    · rw [c4 _ (by decide), k3 _ (by decide) (by decide), k2 _ (by decide) (by decide), ec _ (by decide)]
    · rw [c4 _ (by decide), b3 j hj, k2 _ (by decide) (by decide), ec _ (by decide)]
    · rw [c4 _ (by decide), k3 _ (by decide) (by decide), k2 _ (by decide) (by decide), ec _ (by decide)]
    · rw [c4 _ (by decide), k3 _ (by decide) (by decide), k2 _ (by decide) (by decide), ec _ (by decide)]
    · rw [l4, l3 _ (by decide)]
  have hN4 : MNew σ4 B00 := by
    refine ⟨fun q hq => ?_, ⟨fun i hi => absurd hi (Nat.not_lt_zero i), fun i hi => absurd hi (Nat.not_lt_zero i)⟩, ⟨fun i hi => absurd hi (Nat.not_lt_zero i), fun i hi => absurd hi (Nat.not_lt_zero i), fun i hi => absurd hi (Nat.not_lt_zero i)⟩, fun k hk => ?_, ?_⟩
    · rw [c4 _ (by decide), k3 _ (by decide) (by decide)]; exact a2 q hq
    · show σ4.1 362 k = -1
      rw [c4 _ (by decide)]; exact a3 k hk
    · rw [f4 _ (by decide), e324, pk_us]; rfl
  have htp : σ4.1 326 1 = nI 0 := by rw [f4 _ (by decide), e324, pk_un (by decide), pk_un (by decide), pk_un (by decide), pk_un (by decide), pk_un (by decide), pk_us]
  refine m_beachLoop d hρ hT (Bo := aB A) (σ0 := σ4) 61 0 (.inr (0, 0), B00) σ4 rfl (by decide) (wf_0 _) (fun p hp => by cases hp; rfl) ⟨hTt, hW4, hO4, fun _ => ⟨hN4, s4⟩⟩ (MBe.rf _) (fun σ5 h5 c5 => fin σ5 _ h5 (m4.tr c5.f) ?_)
  rw [c5.2.2 _ rfl (by decide)]; exact htp
end S88zza
