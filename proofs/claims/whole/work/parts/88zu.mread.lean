/-! A beach read by the reference: what is told so far, names. -/
def MNm (σ : St) (B : Bh) : Prop := (∀ i, i < ni B → σ.2 357 i = lI ((n27 0 (nmI B i) : Nat) : Int)) ∧ ∀ b, b < nb B → σ.2 357 (8 + b) = lI ((n27 0 (nmB B b) : Nat) : Int)
def MNt (σ : St) (B : Bh) : Prop := (∀ i, i < ni B → σ.1 358 i = nI (dep B i) ∧ σ.1 359 i = nI (nee B i)) ∧ (∀ b, b < nb B → σ.1 360 (2 * b) = nI (lun B b) ∧ σ.1 360 (2 * b + 1) = nI (wit B b)) ∧ ∀ k, k < np B → σ.1 361 (2 * k) = nI (plb B k) ∧ σ.1 361 (2 * k + 1) = nI (pli B k)
def MNf (σ : St) (B : Bh) : Prop := ∀ k, k < 4 → match frm B k with
  | none => σ.1 362 k = -1
  | some cs => ∃ a b, σ.1 362 k = nI a ∧ σ.1 363 k = nI b ∧ a + cs.length = b ∧ b ≤ flen B ∧ ∀ q, q < cs.length → σ.1 364 (a + q) = nI (mc (cs.getD q 0))
/-- what is told so far -/
def MNew (σ : St) (B : Bh) : Prop := (∀ q, q < 5 → σ.1 356 q = nI (B.1 q)) ∧ MNm σ B ∧ MNt σ B ∧ MNf σ B ∧ σ.1 326 48 = nI (flen B)
/-- the beach that stands -/
def MOld (σ : St) (B : Bh) : Prop := MNum σ B ∧ MTab σ B ∧ MFrm σ B ∧ (∀ i, i < ni B → σ.2 357 (16 + i) = lI ((n27 0 (nmI B i) : Nat) : Int)) ∧ ∀ b, b < nb B → σ.2 357 (24 + b) = lI ((n27 0 (nmB B b) : Nat) : Int)
def MSt (σ : St) (U : Tx) (Bo B : Bh) (s : Rdg) : Prop := MTt σ U s ∧ Wds σ ∧ MOld σ Bo ∧ MNew σ B
theorem MOld.eq {σ σ' : St} {B : Bh} (H : MOld σ B) (h : ∀ q, q ∈ [356, 358, 359, 360, 362, 363, 364] → σ'.1 q = σ.1 q) (h2 : σ'.2 357 = σ.2 357) : MOld σ' B := by
  obtain ⟨g1, g2, g3, g4, g5⟩ := H
  refine ⟨?_, ?_, ?_, by rw [h2]; exact g4, by rw [h2]; exact g5⟩
  · unfold MNum; rw [h 356 (by decide)]; exact g1
  · unfold MTab; rw [h 358 (by decide), h 359 (by decide), h 360 (by decide)]; exact g2
  · unfold MFrm; rw [h 362 (by decide), h 363 (by decide), h 364 (by decide)]; exact g3
theorem MNew.eq {σ σ' : St} {B : Bh} (H : MNew σ B) (h : ∀ q, q ∈ [356, 358, 359, 360, 361, 362, 363, 364] → σ'.1 q = σ.1 q) (h2 : σ'.2 357 = σ.2 357) (h3 : σ'.1 326 48 = σ.1 326 48) : MNew σ' B := by
  obtain ⟨g1, g2, g3, g4, g5⟩ := H
  refine ⟨by rw [h 356 (by decide)]; exact g1, by unfold MNm; rw [h2]; exact g2, ?_, ?_, by rw [h3]; exact g5⟩
  · unfold MNt; rw [h 358 (by decide), h 359 (by decide), h 360 (by decide), h 361 (by decide)]; exact g3
  · unfold MNf; rw [h 362 (by decide), h 363 (by decide), h 364 (by decide)]; exact g4
theorem MSt.mf {C Fd : Nat → Bool} {σ σ' : St} {U : Tx} {Bo B : Bh} {s s' : Rdg} (H : MSt σ U Bo B s) (h : MTt σ' U s') (hs : MF C Fd σ σ') (hC : (C 356 || C 358 || C 359 || C 360 || C 361 || C 362 || C 363 || C 364 || wdX C) = false) (hF : Fd 48 = false) : MSt σ' U Bo B s' := by
  obtain ⟨h1, h2, h3, h4⟩ := H
  simp only [Bool.or_eq_false_iff] at hC
  obtain ⟨⟨⟨⟨⟨⟨⟨⟨c1, c2⟩, c3⟩, c4⟩, c5⟩, c6⟩, c7⟩, c8⟩, c9⟩ := hC
  have e1 := hs.1 356 (by decide) c1
  have e2 := hs.1 358 (by decide) c2
  have e3 := hs.1 359 (by decide) c3
  have e4 := hs.1 360 (by decide) c4
  have e5 := hs.1 361 (by decide) c5
  have e6 := hs.1 362 (by decide) c6
  have e7 := hs.1 363 (by decide) c7
  have e8 := hs.1 364 (by decide) c8
  refine ⟨h, h2.eq (fun p hp => hs.1 p.1 (by have := (wdS_ok p hp).1; omega) (wdX_f c9 p hp)), h3.eq (fun q hq => ?_) (hs.2.1 _ (by decide)), h4.eq (fun q hq => ?_) (hs.2.1 _ (by decide)) (hs.2.2 _ hF)⟩
  · simp only [List.mem_cons, List.not_mem_nil, or_false] at hq
    rcases hq with rfl | rfl | rfl | rfl | rfl | rfl | rfl <;> assumption
  · simp only [List.mem_cons, List.not_mem_nil, or_false] at hq
    rcases hq with rfl | rfl | rfl | rfl | rfl | rfl | rfl | rfl <;> assumption
theorem MSt.mx {σ σ' : St} {U : Tx} {Bo B : Bh} {s s' : Rdg} (H : MSt σ U Bo B s) (h : MTt σ' U s') (hs : MX σ σ') : MSt σ' U Bo B s' := H.mf h hs rfl rfl
theorem MSt.mb {σ σ' : St} {U : Tx} {Bo B : Bh} {s s' : Rdg} (H : MSt σ U Bo B s) (h : MTt σ' U s') (hs : MB σ σ') : MSt σ' U Bo B s' := H.mf h hs rfl rfl
/-! names as numbers, apart from each other -/
theorem n5_inj : ∀ (a b : List Nat), (∀ c, c ∈ a → 1 ≤ c ∧ c ≤ 26) → (∀ c, c ∈ b → 1 ≤ c ∧ c ≤ 26) → n5 a = n5 b → a = b := by
  intro a
  induction a with
  | nil =>
    intro b _ hb h
    cases b with
    | nil => rfl
    | cons c r =>
      have h : 0 = c + 32 * n5 r := h
      have := hb c List.mem_cons_self
      omega
  | cons x a ih =>
    intro b ha hb h
    have hx := ha x List.mem_cons_self
    cases b with
    | nil =>
      have h : x + 32 * n5 a = 0 := h
      omega
    | cons c r =>
      have hc := hb c List.mem_cons_self
      have h : x + 32 * n5 a = c + 32 * n5 r := h
      have h1 : x = c := by omega
      rw [h1, ih r (fun c hc => ha c (List.mem_cons_of_mem x hc)) (fun y hy => hb y (List.mem_cons_of_mem c hy)) (by omega)]
theorem n27_r (c : Nat) (r : List Nat) : n27 0 (c :: r).reverse = 27 * n27 0 r.reverse + c := by
  rw [List.reverse_cons, n27_app]
  rfl
theorem n27_inj' : ∀ (a b : List Nat), (∀ c, c ∈ a → 1 ≤ c ∧ c ≤ 26) → (∀ c, c ∈ b → 1 ≤ c ∧ c ≤ 26) → n27 0 a.reverse = n27 0 b.reverse → a = b := by
  intro a
  induction a with
  | nil =>
    intro b _ hb h
    cases b with
    | nil => rfl
    | cons c r =>
      rw [n27_r] at h
      have h : 0 = 27 * n27 0 r.reverse + c := h
      have := hb c List.mem_cons_self
      omega
  | cons x a ih =>
    intro b ha hb h
    have hx := ha x List.mem_cons_self
    cases b with
    | nil =>
      rw [n27_r] at h
      have h : 27 * n27 0 a.reverse + x = 0 := h
      omega
    | cons c r =>
      have hc := hb c List.mem_cons_self
      rw [n27_r, n27_r] at h
      have h1 : x = c := by omega
      rw [h1, ih r (fun c hc => ha c (List.mem_cons_of_mem x hc)) (fun y hy => hb y (List.mem_cons_of_mem c hy)) (by omega)]
theorem n27_inj {a b : List Nat} (ha : ∀ c, c ∈ a → 1 ≤ c ∧ c ≤ 26) (hb : ∀ c, c ∈ b → 1 ≤ c ∧ c ≤ 26) (h : n27 0 a = n27 0 b) : a = b := by
  have := n27_inj' a.reverse b.reverse (fun c hc => ha c (List.mem_reverse.mp hc)) (fun c hc => hb c (List.mem_reverse.mp hc)) (by rw [List.reverse_reverse, List.reverse_reverse]; exact h)
  rw [← List.reverse_reverse a, this, List.reverse_reverse]
theorem n27_lt {a : List Nat} (ha : ∀ c, c ∈ a → 1 ≤ c ∧ c ≤ 26) (hl : a.length ≤ 6) : n27 0 a < 2 ^ 31 := by
  have := n27_low (l := a) 0 0 (fun c hc => by have := (ha c hc).2; omega) (by decide)
  rw [Nat.zero_add] at this
  exact Nat.lt_of_lt_of_le this (Nat.le_trans (Nat.pow_le_pow_right (by decide) hl) (by decide))
/-- a name: letters by numbers, one to six -/
def okN (w : List Nat) : Prop := w.length ≤ 6 ∧ 0 < w.length ∧ ∀ c, c ∈ w → 1 ≤ c ∧ c ≤ 26
theorem lI_nm {a b : List Nat} (ha : okN a) (hb : okN b) : lI ((n27 0 a : Nat) : Int) = lI ((n27 0 b : Nat) : Int) ↔ a = b := by
  constructor
  · intro h
    refine n27_inj ha.2.2 hb.2.2 ?_
    have h1 : (lN (n27 0 a)).toInt = (lN (n27 0 b)).toInt := congrArg Int64.toInt h
    rw [lN_T (n27_lt ha.2.2 ha.1), lN_T (n27_lt hb.2.2 hb.1)] at h1
    exact Int.ofNat.inj h1
  · intro h; rw [h]
/-- the names of a kind -/
def nmk (B : Bh) : Nat → Nat → List Nat
  | 0 => nmI B
  | _ => nmB B
theorem nmk_ok {B : Bh} (h : WfB B) {kind : Nat} (hk : kind < 2) {k : Nat} (hkk : k < B.1 kind) : okN (nmk B kind k) ∧ B.1 kind ≤ 8 := by
  obtain ⟨⟨h1, h2, -⟩, -, -, -, -, mI, mB⟩ := h
  rcases (by omega : kind = 0 ∨ kind = 1) with rfl | rfl
  · exact ⟨mI k hkk, h1⟩
  · exact ⟨mB k hkk, Nat.le_trans h2 (by decide)⟩
theorem MNm.at {σ : St} {B : Bh} (H : MNm σ B) {kind : Nat} (hk : kind < 2) {k : Nat} (hkk : k < B.1 kind) : σ.2 357 (8 * kind + k) = lI ((n27 0 (nmk B kind k) : Nat) : Int) := by
  rcases (by omega : kind = 0 ∨ kind = 1) with rfl | rfl
  · rw [show 8 * 0 + k = k by omega]; exact H.1 k hkk
  · exact H.2 k hkk
theorem many_le {B : Bh} (h : WfB B) {q : Nat} (hq : q < 5) : B.1 q ≤ 100 := by
  obtain ⟨⟨h1, h2, h3, h4, h5⟩, -⟩ := h
  have h1 : B.1 0 ≤ 8 := h1
  have h2 : B.1 1 ≤ 6 := h2
  have h3 : B.1 2 ≤ 16 := h3
  have h4 : B.1 3 ≤ 16 := h4
  have h5 : B.1 4 ≤ 100 := h5
  rcases (by omega : q = 0 ∨ q = 1 ∨ q = 2 ∨ q = 3 ∨ q = 4) with rfl | rfl | rfl | rfl | rfl <;> omega
section S88zu
variable {l : Launch} {X : Cx} {ρ : Rf} {U : Tx} {Bo B : Bh}
theorem m_isFull (d : Nat) {σ : St} {s : Rdg} {kind room a : Nat} (hρ : RF ρ) (hB : WfB B) (hk : kind < 5) (hr : room ≤ 100) (hle : B.1 kind ≤ room) (H : MSt σ U Bo B s) :
    T l X (d + 1) 180 [.ref 326, .int (nI kind), .int (nI room), .int (nI a)] 402 402 ρ σ (fun v ρ' σ' => v = some (.int (bI (!isOk (roomS (B.1 kind) room a s)))) ∧ ρ' = ρ ∧ MTt σ' U (roomS (B.1 kind) room a s) ∧ MX σ σ') := by
  have hm := many_le hB hk
  cases s with
  | inl e =>
    have e0 : roomS (B.1 kind) room a (.inl e) = .inl e := by unfold roomS; split <;> rfl
    rw [e0]
    obtain ⟨z, hz, hz0⟩ := H.1.badE
    refine T_of rfl ?_
    refine Ev_aload rfl rfl rfl ?_
    refine Ev_getI rfl (by first | rfl | assumption) ?_
    refine Ev_norm hz ?_
    refine Ev_if_ne rfl (fun h4 => ?_) (fun h4 => absurd hz0 h4)
    refine Ev_aload rfl rfl rfl ?_
    refine Ev_getI rfl (by first | rfl | assumption) ?_
    refine Ev_norm hz ?_
    refine Ev_if_eq rfl (fun h27 => absurd h27 hz0) (fun h27 => ?_)
    refine Ev_const rfl ?_
    refine Ev_goto rfl ?_
    exact Ev_ireturn rfl rfl (narZ true) rfl ⟨rfl, rfl, H.1, MF.rf _ _ _⟩
  | inr p =>
    by_cases hc : room ≤ B.1 kind
    · have e0 : roomS (B.1 kind) room a (.inr p) = .inl (5, a) := by unfold roomS; rw [if_pos hc]; rfl
      rw [e0]
      refine T_of rfl ?_
      refine Ev_aload rfl rfl rfl ?_
      refine Ev_getI rfl (by first | rfl | assumption) ?_
      refine Ev_norm (MTt.bad0 H.1) ?_
      refine Ev_if_ne rfl (fun h4 => absurd rfl h4) (fun h4 => ?_)
      refine Ev_aload rfl rfl rfl ?_
      refine Ev_getR rfl (by first | rfl | assumption) (hρ _ _ _ rfl) ?_
      refine Ev_iload rfl rfl ?_
      refine Ev_iald rfl (by first | rfl | assumption) (vp_in_nI (n := kind) (show kind < 10 by omega) (by decide)) ?_
      refine Ev_norm (by rw [nI_clamp (by omega)]; exact H.2.2.2.1 kind hk : _ = nI (B.1 kind)) ?_
      refine Ev_iload rfl rfl ?_
      refine Ev_icmp_ne rfl (fun h14 => absurd (show nI (B.1 kind) = nI room by rw [show B.1 kind = room by omega]) h14) (fun h14 => ?_)
      refine Ev_aload rfl rfl rfl ?_
      refine Ev_const rfl ?_
      refine Ev_iload rfl rfl ?_
      refine Ev_callV rfl rfl rfl rfl rfl (same_n 402) (m_fail _ (w := 5) (k := a) H.1 (by decide) (fun _ _ => rfl)) ?_
      rintro v20 ρ20 σ20 ⟨rfl, e20, s20, c20⟩
      obtain rfl := e20.symm
      refine Ev_aload rfl rfl rfl ?_
      refine Ev_getI rfl (by first | rfl | assumption) ?_
      refine Ev_norm s20.2.2.1 ?_
      refine Ev_if_eq rfl (fun h27 => absurd h27 (show ¬ nI 5 = 0 by decide)) (fun h27 => ?_)
      refine Ev_const rfl ?_
      refine Ev_goto rfl ?_
      exact Ev_ireturn rfl rfl (narZ true) rfl ⟨rfl, rfl, s20, c20⟩
    · have e0 : roomS (B.1 kind) room a (.inr p) = .inr p := by unfold roomS; rw [if_neg hc]
      rw [e0]
      refine T_of rfl ?_
      refine Ev_aload rfl rfl rfl ?_
      refine Ev_getI rfl (by first | rfl | assumption) ?_
      refine Ev_norm (MTt.bad0 H.1) ?_
      refine Ev_if_ne rfl (fun h4 => absurd rfl h4) (fun h4 => ?_)
      refine Ev_aload rfl rfl rfl ?_
      refine Ev_getR rfl (by first | rfl | assumption) (hρ _ _ _ rfl) ?_
      refine Ev_iload rfl rfl ?_
      refine Ev_iald rfl (by first | rfl | assumption) (vp_in_nI (n := kind) (show kind < 10 by omega) (by decide)) ?_
      refine Ev_norm (by rw [nI_clamp (by omega)]; exact H.2.2.2.1 kind hk : _ = nI (B.1 kind)) ?_
      refine Ev_iload rfl rfl ?_
      refine Ev_icmp_ne rfl (fun h14 => ?_) (fun h14 => absurd (fun z => hc (by have := (nI_eq (by omega) (by omega)).mp z; omega)) h14)
      refine Ev_aload rfl rfl rfl ?_
      refine Ev_getI rfl (by first | rfl | assumption) ?_
      refine Ev_norm (MTt.bad0 H.1) ?_
      refine Ev_if_eq rfl (fun h27 => ?_) (fun h27 => absurd rfl h27)
      refine Ev_const rfl ?_
      exact Ev_ireturn rfl rfl (narZ false) rfl ⟨rfl, rfl, H.1, MF.rf _ _ _⟩
/-- a name looked for among those of a kind: a fault, where it is -/
def scN (n : Nat) (f : Nat → List Nat) (w : List Nat) (m k np : Nat) (t : Rdg) : Rdg := if isOk t = true ∧ fndF f w m k < n then flP 3 np t else t
theorem scN_l {n m k np : Nat} {f : Nat → List Nat} {w : List Nat} (e : Nat × Nat) : scN n f w m k np (.inl e) = .inl e := by unfold scN; rw [if_neg (fun z => by cases z.1)]
theorem m_nwLoop (d : Nat) {kind : Nat} {v : Int64} {w : List Nat} {np : Nat} (hρ : RF ρ) (hB : WfB B) (hk : kind < 2) (hw : okN w) {Q : Po} : ∀ (m k : Nat) (t : Rdg) (σ : St), k + m = B.1 kind → MSt σ U Bo B t → (isOk t = true → v = lI ((n27 0 w : Nat) : Int) ∧ σ.1 326 38 = nI np) →
    (∀ σ', MTt σ' U (scN (B.1 kind) (nmk B kind) w m k np t) → (isOk (scN (B.1 kind) (nmk B kind) w m k np t) = true → σ'.1 326 38 = nI np) → MX σ σ' → Ev l X (d + 1) 181 65 [.ref 326, .long v, .float 0, .int (nI kind), .int (nI (B.1 kind))] [] 402 402 402 ρ σ' Q) →
    Ev l X (d + 1) 181 15 [.ref 326, .long v, .float 0, .int (nI kind), .int (nI k)] [] 402 402 402 ρ σ Q := by
  have hm100 := many_le hB (show kind < 5 by omega)
  intro m
  induction m with
  | zero =>
    intro k t σ hm H ht hQ
    have e : scN (B.1 kind) (nmk B kind) w 0 k np t = t := by
      unfold scN
      rw [if_neg (fun z => by have : k < B.1 kind := z.2; omega)]
    rw [e] at hQ
    refine Ev_iload rfl rfl ?_
    refine Ev_aload rfl rfl rfl ?_
    refine Ev_getR rfl (by first | rfl | assumption) (hρ _ _ _ rfl) ?_
    refine Ev_iload rfl rfl ?_
    refine Ev_iald rfl (by first | rfl | assumption) (vp_in_nI (n := kind) (show kind < 10 by omega) (by decide)) ?_
    refine Ev_norm (by rw [nI_clamp (by omega)]; exact H.2.2.2.1 kind (by omega) : _ = nI (B.1 kind)) ?_
    refine Ev_icmp_ge rfl (fun h23 => ?_) (fun h23 => absurd (nI_le (by omega) (by omega)) h23)
    rw [show k = B.1 kind by omega]
    exact hQ σ H.1 (fun z => (ht z).2) (MF.rf _ _ _)
  | succ m ih =>
    intro k t σ hm H ht hQ
    obtain ⟨hok, h8⟩ := nmk_ok hB hk (show k < B.1 kind by omega)
    cases t with
    | inl e =>
      obtain ⟨z, hz, hz0⟩ := H.1.badE
      rw [scN_l] at hQ
      refine Ev_iload rfl rfl ?_
      refine Ev_aload rfl rfl rfl ?_
      refine Ev_getR rfl (by first | rfl | assumption) (hρ _ _ _ rfl) ?_
      refine Ev_iload rfl rfl ?_
      refine Ev_iald rfl (by first | rfl | assumption) (vp_in_nI (n := kind) (show kind < 10 by omega) (by decide)) ?_
      refine Ev_norm (by rw [nI_clamp (by omega)]; exact H.2.2.2.1 kind (by omega) : _ = nI (B.1 kind)) ?_
      refine Ev_icmp_ge rfl (fun h23 => absurd h23 (nI_ge (by omega) (by omega))) (fun h23 => ?_)
      refine Ev_aload rfl rfl rfl ?_
      refine Ev_getI rfl (by first | rfl | assumption) ?_
      refine Ev_norm hz ?_
      refine Ev_if_ne rfl (fun h30 => ?_) (fun h30 => absurd hz0 h30)
      refine Ev_iincE rfl rfl (nI_1 k) ?_
      refine Ev_goto rfl ?_
      exact ih (k + 1) (.inl e) σ (by omega) H (fun z => by cases z) (fun σ' h1 h2 h3 => by rw [scN_l] at h1; exact hQ σ' h1 (fun z => by cases z) h3)
    | inr p =>
      obtain ⟨hv, hnp⟩ := ht rfl
      subst hv
      have hstep : scN (B.1 kind) (nmk B kind) w (m + 1) k np (.inr p) = if nmk B kind k = w then .inl (3, np) else scN (B.1 kind) (nmk B kind) w m (k + 1) np (.inr p) := by
        unfold scN
        show (if isOk (.inr p) = true ∧ (if nmk B kind k = w then k else fndF (nmk B kind) w m (k + 1)) < B.1 kind then flP 3 np (.inr p) else .inr p) = _
        by_cases hq : nmk B kind k = w
        · rw [if_pos hq, if_pos hq, if_pos ⟨rfl, by omega⟩]; rfl
        · rw [if_neg hq, if_neg hq]
      rw [hstep] at hQ
      refine Ev_iload rfl rfl ?_
      refine Ev_aload rfl rfl rfl ?_
      refine Ev_getR rfl (by first | rfl | assumption) (hρ _ _ _ rfl) ?_
      refine Ev_iload rfl rfl ?_
      refine Ev_iald rfl (by first | rfl | assumption) (vp_in_nI (n := kind) (show kind < 10 by omega) (by decide)) ?_
      refine Ev_norm (by rw [nI_clamp (by omega)]; exact H.2.2.2.1 kind (by omega) : _ = nI (B.1 kind)) ?_
      refine Ev_icmp_ge rfl (fun h23 => absurd h23 (nI_ge (by omega) (by omega))) (fun h23 => ?_)
      refine Ev_aload rfl rfl rfl ?_
      refine Ev_getI rfl (by first | rfl | assumption) ?_
      refine Ev_norm (MTt.bad0 H.1) ?_
      refine Ev_if_ne rfl (fun h30 => absurd rfl h30) (fun h30 => ?_)
      refine Ev_aload rfl rfl rfl ?_
      refine Ev_getR rfl (by first | rfl | assumption) (hρ _ _ _ rfl) ?_
      refine Ev_const rfl ?_
      refine Ev_iload rfl rfl ?_
      refine Ev_imul rfl ?_
      refine Ev_norm (pk_mul 8 kind) ?_
      refine Ev_iload rfl rfl ?_
      refine Ev_iadd rfl ?_
      refine Ev_norm (nI_add (8 * kind) k) ?_
      refine Ev_lald rfl (by first | rfl | assumption) (vp_in_nI (n := 8 * kind + k) (show 8 * kind + k < 32 by omega) (by decide)) ?_
      refine Ev_normL (by rw [nI_clamp (by omega)]; exact H.2.2.2.2.1.at hk (by omega) : _ = lI ((n27 0 (nmk B kind k) : Nat) : Int)) ?_
      refine Ev_lload rfl rfl ?_
      refine Ev_lcmp rfl ?_
      refine Ev_if_ne rfl (fun h47 => ?_) (fun h47 => ?_)
      · have hq : ¬ nmk B kind k = w := fun z => h47 ((lc_eq _ _).mpr (by rw [z]))
        rw [if_neg hq] at hQ
        refine Ev_iincE rfl rfl (nI_1 k) ?_
        refine Ev_goto rfl ?_
        exact ih (k + 1) (.inr p) σ (by omega) H (fun _ => ⟨rfl, hnp⟩) hQ
      · refine Ev_aload rfl rfl rfl ?_
        refine Ev_const rfl ?_
        refine Ev_aload rfl rfl rfl ?_
        refine Ev_getI rfl (by first | rfl | assumption) ?_
        refine Ev_norm hnp ?_
        refine Ev_callV rfl rfl rfl rfl rfl (same_n 402) (m_fail _ (w := 3) (k := np) H.1 (by decide) (fun _ _ => rfl)) ?_
        rintro v56 ρ56 σ56 ⟨rfl, e56, s56, c56⟩
        obtain rfl := e56.symm
        have hq : nmk B kind k = w := (lI_nm hok hw).mp ((lc_eq _ _).mp (Decidable.not_not.mp h47))
        rw [if_pos hq] at hQ
        refine Ev_iincE rfl rfl (nI_1 k) ?_
        refine Ev_goto rfl ?_
        exact ih (k + 1) (.inl (3, np)) σ56 (by omega) (H.mx s56 c56) (fun z => by cases z) (fun σ' h1 h2 h3 => by rw [scN_l] at h1; exact hQ σ' h1 (fun z => by cases z) (c56.tr h3))
theorem nwN_sc {s : Rdg} : nwN U B s = scN (nb B) (nmB B) (vNm U s) (nb B) 0 (rpos (lkS U s)) (scN (ni B) (nmI B) (vNm U s) (ni B) 0 (rpos (lkS U s)) (aNm U s)) := by
  have e1 : ∀ n f w np t, scN n f w n 0 np t = if isOk t = true ∧ fnd n f w < n then flP 3 np t else t := fun _ _ _ _ _ => rfl
  rw [e1, e1]
  unfold nwN
  by_cases h0 : isOk (aNm U s) = true
  · by_cases h1 : fnd (ni B) (nmI B) (vNm U s) < ni B
    · rw [if_pos ⟨h0, Or.inl h1⟩, if_pos (show isOk (aNm U s) = true ∧ fnd (ni B) (nmI B) (vNm U s) < ni B from ⟨h0, h1⟩), if_neg (fun z => by rw [flP_no] at z; cases z.1)]
    · rw [if_neg (show ¬ (isOk (aNm U s) = true ∧ fnd (ni B) (nmI B) (vNm U s) < ni B) from fun z => h1 z.2)]
      by_cases h2 : fnd (nb B) (nmB B) (vNm U s) < nb B
      · rw [if_pos ⟨h0, Or.inr h2⟩, if_pos ⟨h0, h2⟩]
      · rw [if_neg (fun z => z.2.elim h1 h2), if_neg (fun z => h2 z.2)]
  · rw [if_neg (fun z => h0 z.1), if_neg (show ¬ (isOk (aNm U s) = true ∧ fnd (ni B) (nmI B) (vNm U s) < ni B) from fun z => h0 z.1), if_neg (fun z => h0 z.1)]
theorem m_nwMid (d : Nat) {σ : St} {v : Int64} {L : Value} {Q : Po} (hQ : Ev l X d 181 15 [.ref 326, .long v, .float 0, .int (nI 1), .int (nI 0)] [] 402 402 402 ρ σ Q) : Ev l X d 181 65 [.ref 326, .long v, .float 0, .int (nI 0), L] [] 402 402 402 ρ σ Q := by
  refine Ev_iincE rfl rfl (rfl : _ = nI 1) ?_
  refine Ev_goto rfl ?_
  refine Ev_iload rfl rfl ?_
  refine Ev_const rfl ?_
  refine Ev_icmp_ge rfl (fun h9 => absurd h9 (by decide)) (fun h9 => ?_)
  refine Ev_const rfl ?_
  refine Ev_istore rfl ?_
  exact hQ
theorem m_nwFin (d : Nat) {σ : St} {v : Int64} {L : Value} {Q : Po} (hQ : Q (some (.long v)) ρ σ) : Ev l X d 181 65 [.ref 326, .long v, .float 0, .int (nI 1), L] [] 402 402 402 ρ σ Q := by
  refine Ev_iincE rfl rfl (rfl : _ = nI 2) ?_
  refine Ev_goto rfl ?_
  refine Ev_iload rfl rfl ?_
  refine Ev_const rfl ?_
  refine Ev_icmp_ge rfl (fun h9 => ?_) (fun h9 => absurd (by decide) h9)
  refine Ev_lload rfl rfl ?_
  exact Ev_lreturn rfl rfl rfl hQ
theorem m_newName (d : Nat) {σ : St} {s : Rdg} (hρ : RF ρ) (hT : TxW U) (hB : WfB B) (hI : Ivr U s) (H : MSt σ U Bo B s) :
    T l X (d + 4) 181 [.ref 326] 402 402 ρ σ (fun v ρ' σ' => (∃ x, v = some (.long x) ∧ (isOk (nwN U B s) = true → x = lI ((n27 0 (vNm U s) : Nat) : Int))) ∧ ρ' = ρ ∧ MTt σ' U (nwN U B s) ∧ (isOk (nwN U B s) = true → σ'.1 326 38 = nI (rpos (lkS U s))) ∧ MX σ σ') := by
  have go : ∀ (σ1 : St) (x : Int64) (w : List Nat) (np : Nat) (t : Rdg), okN w → MSt σ1 U Bo B t → (isOk t = true → x = lI ((n27 0 w : Nat) : Int) ∧ σ1.1 326 38 = nI np) → MX σ σ1 → ∀ Q : Po, (∀ σ', MTt σ' U (scN (nb B) (nmB B) w (nb B) 0 np (scN (ni B) (nmI B) w (ni B) 0 np t)) → (isOk (scN (nb B) (nmB B) w (nb B) 0 np (scN (ni B) (nmI B) w (ni B) 0 np t)) = true → σ'.1 326 38 = nI np) → MX σ σ' → Q (some (.long x)) ρ σ') → Ev l X (d + 4) 181 15 [.ref 326, .long x, .float 0, .int (nI 0), .int (nI 0)] [] 402 402 402 ρ σ1 Q := by
    intro σ1 x w np t hw H1 ht c1 Q hQ
    refine m_nwLoop (d + 3) (kind := 0) hρ hB (by decide) hw (ni B) 0 t σ1 (Nat.zero_add _) H1 ht (fun σ2 s2 n2 c2 => ?_)
    have H2 := H1.mx s2 c2
    refine m_nwMid _ ?_
    refine m_nwLoop (d + 3) (kind := 1) hρ hB (by decide) hw (nb B) 0 _ σ2 (Nat.zero_add _) H2 (fun z => ⟨(ht ?_).1, n2 z⟩) (fun σ3 s3 n3 c3 => ?_)
    · have z : isOk (scN (B.1 0) (nmk B 0) w (ni B) 0 np t) = true := z
      unfold scN at z
      split at z
      · rw [flP_no] at z; cases z
      · exact z
    · exact m_nwFin _ (hQ σ3 s3 n3 ((c1.tr c2).tr c3))
  refine T_of rfl ?_
  refine Ev_aload rfl rfl rfl ?_
  refine Ev_callV rfl rfl rfl rfl rfl (same_n 402) (m_name _ hρ hT H.2.1 H.1) ?_
  rintro v1 ρ1 σ1 ⟨⟨x, rfl, hx⟩, e1, s1, n1, c1⟩
  obtain rfl := e1.symm
  rw [mNm_a hI] at s1 n1 hx
  refine Ev_lstore rfl ?_
  refine Ev_const rfl ?_
  refine Ev_istore rfl ?_
  have H1 := H.mx s1 c1
  cases ho : isOk (aNm U s) with
  | true =>
    have hw : okN (vNm U s) := vN_ok ho
    have hx := hx ho
    rw [vN_m hI ho] at hx
    have n1 := n1 ho
    rw [sk_rp hI ho] at n1
    refine Ev_iload rfl rfl ?_
    refine Ev_const rfl ?_
    refine Ev_icmp_ge rfl (fun h9 => absurd h9 (by decide)) (fun h9 => ?_)
    refine Ev_const rfl ?_
    refine Ev_istore rfl ?_
    exact go σ1 x (vNm U s) (rpos (lkS U s)) (aNm U s) hw H1 (fun _ => ⟨hx, n1⟩) c1 _ (fun σ' h1 h2 h3 => by rw [nwN_sc]; exact ⟨⟨_, rfl, fun _ => hx⟩, rfl, h1, h2, h3⟩)
  | false =>
    have e0 : nwN U B s = aNm U s := by unfold nwN; rw [if_neg (fun z => by rw [ho] at z; cases z.1)]
    rw [e0]
    cases hs : aNm U s with
    | inr p => rw [hs] at ho; cases ho
    | inl e =>
      have hw : okN [1] := by unfold okN; decide
      rw [hs] at H1
      refine Ev_iload rfl rfl ?_
      refine Ev_const rfl ?_
      refine Ev_icmp_ge rfl (fun h9 => absurd h9 (by decide)) (fun h9 => ?_)
      refine Ev_const rfl ?_
      refine Ev_istore rfl ?_
      exact go σ1 x [1] 0 (.inl e) hw H1 (fun z => by cases z) c1 _ (fun σ' h1 h2 h3 => by rw [scN_l, scN_l] at h1; exact ⟨⟨_, rfl, fun z => by cases z⟩, rfl, h1, (fun z => by cases z), h3⟩)
/-- a name that is told, looked for among those of a kind -/
theorem m_ndLoop (d : Nat) {kind : Nat} {w : List Nat} {np : Nat} {σ : St} {p : Nat × Nat} (hρ : RF ρ) (hB : WfB B) (hk : kind < 2) (hw : okN w) (H : MSt σ U Bo B (.inr p)) (hnp : σ.1 326 38 = nI np) {Q : Po}
    (hQ1 : ∀ k, k < B.1 kind → k = fnd (B.1 kind) (nmk B kind) w → Q (some (.int (nI k))) ρ σ) (hQ2 : ∀ σ', fnd (B.1 kind) (nmk B kind) w = B.1 kind → MTt σ' U (.inl (3, np)) → MX σ σ' → Q (some (.int 0)) ρ σ') : ∀ (m k : Nat), k + m = B.1 kind → fndF (nmk B kind) w m k = fnd (B.1 kind) (nmk B kind) w →
    Ev l X (d + 1) 182 8 [.ref 326, .int (nI kind), .long (lI ((n27 0 w : Nat) : Int)), .float 0, .int (nI k)] [] 402 402 402 ρ σ Q := by
  have hm100 := many_le hB (show kind < 5 by omega)
  intro m
  induction m with
  | zero =>
    intro k hm hf
    have hf : k = fnd (B.1 kind) (nmk B kind) w := hf
    refine Ev_iload rfl rfl ?_
    refine Ev_aload rfl rfl rfl ?_
    refine Ev_getR rfl (by first | rfl | assumption) (hρ _ _ _ rfl) ?_
    refine Ev_iload rfl rfl ?_
    refine Ev_iald rfl (by first | rfl | assumption) (vp_in_nI (n := kind) (show kind < 10 by omega) (by decide)) ?_
    refine Ev_norm (by rw [nI_clamp (by omega)]; exact H.2.2.2.1 kind (by omega) : _ = nI (B.1 kind)) ?_
    refine Ev_icmp_ge rfl (fun h16 => ?_) (fun h16 => absurd (nI_le (by omega) (by omega)) h16)
    refine Ev_aload rfl rfl rfl ?_
    refine Ev_getI rfl (by first | rfl | assumption) ?_
    refine Ev_norm (MTt.bad0 H.1) ?_
    refine Ev_if_ne rfl (fun h49 => absurd rfl h49) (fun h49 => ?_)
    refine Ev_aload rfl rfl rfl ?_
    refine Ev_const rfl ?_
    refine Ev_aload rfl rfl rfl ?_
    refine Ev_getI rfl (by first | rfl | assumption) ?_
    refine Ev_norm hnp ?_
    refine Ev_callV rfl rfl rfl rfl rfl (same_n 402) (m_fail _ (w := 3) (k := np) H.1 (by decide) (fun _ _ => rfl)) ?_
    rintro v58 ρ58 σ58 ⟨rfl, e58, s58, c58⟩
    obtain rfl := e58.symm
    refine Ev_const rfl ?_
    exact Ev_ireturn rfl rfl rfl rfl (hQ2 σ58 (by omega) s58 c58)
  | succ m ih =>
    intro k hm hf
    obtain ⟨hok, h8⟩ := nmk_ok hB hk (show k < B.1 kind by omega)
    have hf : (if nmk B kind k = w then k else fndF (nmk B kind) w m (k + 1)) = fnd (B.1 kind) (nmk B kind) w := hf
    refine Ev_iload rfl rfl ?_
    refine Ev_aload rfl rfl rfl ?_
    refine Ev_getR rfl (by first | rfl | assumption) (hρ _ _ _ rfl) ?_
    refine Ev_iload rfl rfl ?_
    refine Ev_iald rfl (by first | rfl | assumption) (vp_in_nI (n := kind) (show kind < 10 by omega) (by decide)) ?_
    refine Ev_norm (by rw [nI_clamp (by omega)]; exact H.2.2.2.1 kind (by omega) : _ = nI (B.1 kind)) ?_
    refine Ev_icmp_ge rfl (fun h16 => absurd h16 (nI_ge (by omega) (by omega))) (fun h16 => ?_)
    refine Ev_aload rfl rfl rfl ?_
    refine Ev_getR rfl (by first | rfl | assumption) (hρ _ _ _ rfl) ?_
    refine Ev_const rfl ?_
    refine Ev_iload rfl rfl ?_
    refine Ev_imul rfl ?_
    refine Ev_norm (pk_mul 8 kind) ?_
    refine Ev_iload rfl rfl ?_
    refine Ev_iadd rfl ?_
    refine Ev_norm (nI_add (8 * kind) k) ?_
    refine Ev_lald rfl (by first | rfl | assumption) (vp_in_nI (n := 8 * kind + k) (show 8 * kind + k < 32 by omega) (by decide)) ?_
    refine Ev_normL (by rw [nI_clamp (by omega)]; exact H.2.2.2.2.1.at hk (by omega) : _ = lI ((n27 0 (nmk B kind k) : Nat) : Int)) ?_
    refine Ev_lload rfl rfl ?_
    refine Ev_lcmp rfl ?_
    refine Ev_if_ne rfl (fun h33 => ?_) (fun h33 => ?_)
    · refine Ev_iincE rfl rfl (nI_1 k) ?_
      refine Ev_goto rfl ?_
      have hq : ¬ nmk B kind k = w := fun z => h33 ((lc_eq _ _).mpr (by rw [z]))
      rw [if_neg hq] at hf
      exact ih (k + 1) (by omega) hf
    · refine Ev_iload rfl rfl ?_
      exact Ev_ireturn rfl rfl rfl rfl (by
      have hq : nmk B kind k = w := (lI_nm hok hw).mp ((lc_eq _ _).mp (Decidable.not_not.mp h33))
      rw [if_pos hq] at hf
      exact hQ1 k (by omega) hf)
/-- with a fault, whatever is looked for -/
theorem m_ndBad (d : Nat) {kind : Nat} {v : Int64} {σ : St} {e : Nat × Nat} (hρ : RF ρ) (hB : WfB B) (hk : kind < 2) (H : MSt σ U Bo B (.inl e)) {Q : Po} (hQ : ∀ x, Q (some (.int x)) ρ σ) : ∀ (m k : Nat), k + m = B.1 kind →
    Ev l X (d + 1) 182 8 [.ref 326, .int (nI kind), .long v, .float 0, .int (nI k)] [] 402 402 402 ρ σ Q := by
  have hm100 := many_le hB (show kind < 5 by omega)
  obtain ⟨z, hz, hz0⟩ := H.1.badE
  intro m
  induction m with
  | zero =>
    intro k hm
    refine Ev_iload rfl rfl ?_
    refine Ev_aload rfl rfl rfl ?_
    refine Ev_getR rfl (by first | rfl | assumption) (hρ _ _ _ rfl) ?_
    refine Ev_iload rfl rfl ?_
    refine Ev_iald rfl (by first | rfl | assumption) (vp_in_nI (n := kind) (show kind < 10 by omega) (by decide)) ?_
    refine Ev_norm (by rw [nI_clamp (by omega)]; exact H.2.2.2.1 kind (by omega) : _ = nI (B.1 kind)) ?_
    refine Ev_icmp_ge rfl (fun h16 => ?_) (fun h16 => absurd (nI_le (by omega) (by omega)) h16)
    refine Ev_aload rfl rfl rfl ?_
    refine Ev_getI rfl (by first | rfl | assumption) ?_
    refine Ev_norm hz ?_
    refine Ev_if_ne rfl (fun h49 => ?_) (fun h49 => absurd hz0 h49)
    refine Ev_const rfl ?_
    exact Ev_ireturn rfl rfl rfl rfl (hQ _)
  | succ m ih =>
    intro k hm
    obtain ⟨hok, h8⟩ := nmk_ok hB hk (show k < B.1 kind by omega)
    refine Ev_iload rfl rfl ?_
    refine Ev_aload rfl rfl rfl ?_
    refine Ev_getR rfl (by first | rfl | assumption) (hρ _ _ _ rfl) ?_
    refine Ev_iload rfl rfl ?_
    refine Ev_iald rfl (by first | rfl | assumption) (vp_in_nI (n := kind) (show kind < 10 by omega) (by decide)) ?_
    refine Ev_norm (by rw [nI_clamp (by omega)]; exact H.2.2.2.1 kind (by omega) : _ = nI (B.1 kind)) ?_
    refine Ev_icmp_ge rfl (fun h16 => absurd h16 (nI_ge (by omega) (by omega))) (fun h16 => ?_)
    refine Ev_aload rfl rfl rfl ?_
    refine Ev_getR rfl (by first | rfl | assumption) (hρ _ _ _ rfl) ?_
    refine Ev_const rfl ?_
    refine Ev_iload rfl rfl ?_
    refine Ev_imul rfl ?_
    refine Ev_norm (pk_mul 8 kind) ?_
    refine Ev_iload rfl rfl ?_
    refine Ev_iadd rfl ?_
    refine Ev_norm (nI_add (8 * kind) k) ?_
    refine Ev_lald rfl (by first | rfl | assumption) (vp_in_nI (n := 8 * kind + k) (show 8 * kind + k < 32 by omega) (by decide)) ?_
    refine Ev_lload rfl rfl ?_
    refine Ev_lcmp rfl ?_
    refine Ev_if_ne rfl (fun h33 => ?_) (fun h33 => ?_)
    · refine Ev_iincE rfl rfl (nI_1 k) ?_
      refine Ev_goto rfl ?_
      exact ih (k + 1) (by omega)
    · refine Ev_iload rfl rfl ?_
      exact Ev_ireturn rfl rfl rfl rfl (hQ _)
theorem m_named (d : Nat) {σ : St} {s : Rdg} {kind : Nat} (hρ : RF ρ) (hT : TxW U) (hB : WfB B) (hk : kind < 2) (hI : Ivr U s) (H : MSt σ U Bo B s) :
    T l X (d + 4) 182 [.ref 326, .int (nI kind)] 402 402 ρ σ (fun v ρ' σ' => (∃ x, v = some (.int x) ∧ (isOk (tdN U (B.1 kind) (nmk B kind) s) = true → x = nI (fnd (B.1 kind) (nmk B kind) (vNm U s)))) ∧ ρ' = ρ ∧ MTt σ' U (tdN U (B.1 kind) (nmk B kind) s) ∧ (isOk (tdN U (B.1 kind) (nmk B kind) s) = true → σ'.1 326 38 = nI (rpos (lkS U s))) ∧ MX σ σ') := by
  refine T_of rfl ?_
  refine Ev_aload rfl rfl rfl ?_
  refine Ev_callV rfl rfl rfl rfl rfl (same_n 402) (m_name _ hρ hT H.2.1 H.1) ?_
  rintro v1 ρ1 σ1 ⟨⟨x, rfl, hx⟩, e1, s1, n1, c1⟩
  obtain rfl := e1.symm
  rw [mNm_a hI] at s1 n1 hx
  refine Ev_lstore rfl ?_
  refine Ev_const rfl ?_
  refine Ev_istore rfl ?_
  have H1 := H.mx s1 c1
  cases ho : isOk (aNm U s) with
  | true =>
    have hw : okN (vNm U s) := vN_ok ho
    have hx := hx ho
    rw [vN_m hI ho] at hx
    have n1 := n1 ho
    rw [sk_rp hI ho] at n1
    subst hx
    cases hs : aNm U s with
    | inl e => rw [hs] at ho; cases ho
    | inr p =>
      rw [hs] at H1
      refine m_ndLoop (d + 3) (np := rpos (lkS U s)) hρ hB hk hw H1 n1 (fun k hk2 hf => ?_) (fun σ' hf s2 c2 => ?_) (B.1 kind) 0 (Nat.zero_add _) rfl
      · have e0 : tdN U (B.1 kind) (nmk B kind) s = aNm U s := by unfold tdN; rw [if_neg (fun z => by omega)]
        rw [e0, hs]
        exact ⟨⟨_, rfl, fun _ => by rw [hf]⟩, rfl, H1.1, fun _ => n1, c1⟩
      · have e0 : tdN U (B.1 kind) (nmk B kind) s = flP 3 (rpos (lkS U s)) (aNm U s) := by unfold tdN; rw [if_pos ⟨ho, hf⟩]
        rw [e0, hs]
        exact ⟨⟨_, rfl, fun z => by cases z⟩, rfl, s2, (fun z => by cases z), c1.tr c2⟩
  | false =>
    have e0 : tdN U (B.1 kind) (nmk B kind) s = aNm U s := by unfold tdN; rw [if_neg (fun z => by rw [ho] at z; cases z.1)]
    rw [e0]
    cases hs : aNm U s with
    | inr p => rw [hs] at ho; cases ho
    | inl e =>
      rw [hs] at H1
      exact m_ndBad (d + 3) hρ hB hk H1 (fun y => ⟨⟨_, rfl, fun z => by cases z⟩, rfl, H1.1, (fun z => by cases z), c1⟩) (B.1 kind) 0 (Nat.zero_add _)
end S88zu
