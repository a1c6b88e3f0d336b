/-! A match: the reference; the calls. -/
def MTbl (σ : St) (b : Nat) (nx : Nat → Nat) : Prop := ∀ s, s < 256 → σ.1 370 (256 * b + s) = nI (nx s)
theorem mG_up (f nx : Nat → Nat) (s k : Nat) : nx s ≤ mG f nx s k := by
  induction k with
  | zero => exact Nat.le_refl _
  | succ k ih =>
    show nx s ≤ mxO (mG f nx s k) (mtW f nx s k)
    cases mtW f nx s k with
    | none => exact ih
    | some v =>
      show nx s ≤ (if mG f nx s k < v then v else mG f nx s k)
      split
      · omega
      · exact ih
theorem mG_at (f nx : Nat → Nat) (s k : Nat) : mG f nx s k = nx s ∨ ∃ i, i < k ∧ mtW f nx s i = some (mG f nx s k) := by
  induction k with
  | zero => exact Or.inl rfl
  | succ k ih =>
    have e : mG f nx s (k + 1) = mxO (mG f nx s k) (mtW f nx s k) := rfl
    have old : mG f nx s (k + 1) = mG f nx s k → (mG f nx s (k + 1) = nx s ∨ ∃ i, i < k + 1 ∧ mtW f nx s i = some (mG f nx s (k + 1))) := by
      intro h
      rw [h]
      exact ih.elim Or.inl (fun ⟨i, h1, h2⟩ => Or.inr ⟨i, by omega, h2⟩)
    cases hw : mtW f nx s k with
    | none => exact old (by rw [e, hw]; rfl)
    | some v =>
      by_cases hv : mG f nx s k < v
      · exact Or.inr ⟨k, Nat.lt_succ_self k, by rw [e, hw]; show some v = some (if mG f nx s k < v then v else mG f nx s k); rw [if_pos hv]⟩
      · exact old (by rw [e, hw]; show (if mG f nx s k < v then v else mG f nx s k) = _; rw [if_neg hv])
theorem mF_ex {f nx : Nat → Nat} {s best i : Nat} (h : mtW f nx s i = some best) : ∀ (m k : Nat), k ≤ i → i < k + m → ∃ j, mF f nx s best m k = some j := by
  intro m
  induction m with
  | zero => intro k h1 h2; omega
  | succ m ih =>
    intro k h1 h2
    show ∃ j, (if mtW f nx s k = some best then some k else mF f nx s best m (k + 1)) = some j
    by_cases hq : mtW f nx s k = some best
    · exact ⟨k, if_pos hq⟩
    · rw [if_neg hq]
      refine ih (k + 1) ?_ (by omega)
      by_cases hk : k = i
      · rw [hk] at hq; exact absurd h hq
      · omega
section S86
variable {l : Launch} {X : Cx} {ρ : Rf} {B : Bh} {q : Nat}
theorem m_matchBy (d : Nat) {b i s : Nat} {σ : St} {f nx : Nat → Nat} (hρ : RF ρ) (hb : b < 6) (hi : i < 8) (hs : s < 256) (hg : σ.1 371 (8 * b + i) = nI (f i)) (hf : ∀ i, f i ≤ 99) (hn : MTbl σ (b + 1) nx) (hnx : ∀ s, nx s ≤ 594) :
    T l X d 241 [.ref 326, .int (nI b), .int (nI s), .int (nI i)] 402 402 ρ σ (Rs (.int (plV (mtW f nx s i))) ρ σ) := by
  have f99 := hf i
  have hor := or_256 s hs i hi
  refine T_of rfl ?_
  refine Ev_iload rfl rfl ?_
  refine Ev_const rfl ?_
  refine Ev_icmp_ne rfl (fun h2 => ?_) (fun h2 => absurd (nI_m1 (n := i) (by omega)) h2)
  refine Ev_iload rfl rfl ?_
  refine Ev_iload rfl rfl ?_
  refine Ev_ishr rfl ?_
  refine Ev_const rfl ?_
  refine Ev_iand rfl ?_
  refine Ev_norm (sh_8 hs hi) ?_
  refine Ev_const rfl ?_
  refine Ev_icmp_eq rfl (fun h26 => ?_) (fun h26 => ?_)
  · refine Ev_const rfl ?_
    exact Ev_ireturn rfl rfl rfl rfl ⟨by
    have h1 : s / 2 ^ i % 2 = 1 := (nI_eq (b := 1) (by omega) (by decide)).mp h26
    unfold mtW; rw [if_pos (Or.inr h1)]; rfl, rfl, rfl⟩
  · refine Ev_aload rfl rfl rfl ?_
    refine Ev_getR rfl (by first | rfl | assumption) (hρ _ _ _ rfl) ?_
    refine Ev_const rfl ?_
    refine Ev_iload rfl rfl ?_
    refine Ev_imul rfl ?_
    refine Ev_norm (pk_mul 8 b) ?_
    refine Ev_iload rfl rfl ?_
    refine Ev_iadd rfl ?_
    refine Ev_norm (nI_add (8 * b) i) ?_
    refine Ev_iald rfl (by first | rfl | assumption) (vp_in_nI (n := 8 * b + i) (show 8 * b + i < 48 by omega) (by decide)) ?_
    refine Ev_norm (by rw [nI_clamp (by omega)]; exact hg : _ = nI (f i)) ?_
    refine Ev_if_ne rfl (fun h40 => ?_) (fun h40 => ?_)
    · refine Ev_aload rfl rfl rfl ?_
      refine Ev_getR rfl (by first | rfl | assumption) (hρ _ _ _ rfl) ?_
      refine Ev_const rfl ?_
      refine Ev_iload rfl rfl ?_
      refine Ev_imul rfl ?_
      refine Ev_norm (pk_mul 8 b) ?_
      refine Ev_iload rfl rfl ?_
      refine Ev_iadd rfl ?_
      refine Ev_norm (nI_add (8 * b) i) ?_
      refine Ev_iald rfl (by first | rfl | assumption) (vp_in_nI (n := 8 * b + i) (show 8 * b + i < 48 by omega) (by decide)) ?_
      refine Ev_norm (by rw [nI_clamp (by omega)]; exact hg : _ = nI (f i)) ?_
      refine Ev_aload rfl rfl rfl ?_
      refine Ev_getR rfl (by first | rfl | assumption) (hρ _ _ _ rfl) ?_
      refine Ev_const rfl ?_
      refine Ev_iload rfl rfl ?_
      refine Ev_const rfl ?_
      refine Ev_iadd rfl ?_
      refine Ev_norm (nI_1 b) ?_
      refine Ev_imul rfl ?_
      refine Ev_norm (pk_mul 256 (b + 1)) ?_
      refine Ev_iload rfl rfl ?_
      refine Ev_const rfl ?_
      refine Ev_iload rfl rfl ?_
      refine Ev_ishl rfl ?_
      refine Ev_norm (shl_1 i (by omega)) ?_
      refine Ev_ior rfl ?_
      refine Ev_norm (nI_or s (2 ^ i)) ?_
      refine Ev_iadd rfl ?_
      refine Ev_norm (nI_add (256 * (b + 1)) (s ||| 2 ^ i)) ?_
      refine Ev_iald rfl (by first | rfl | assumption) (vp_in_nI (n := 256 * (b + 1) + (s ||| 2 ^ i)) (show 256 * (b + 1) + (s ||| 2 ^ i) < 1792 by omega) (by decide)) ?_
      refine Ev_norm (by rw [nI_clamp (by omega)]; exact hn _ hor : _ = nI (nx (s ||| 2 ^ i))) ?_
      refine Ev_iadd rfl ?_
      refine Ev_norm (nI_add (f i) (nx (s ||| 2 ^ i))) ?_
      exact Ev_ireturn rfl rfl rfl rfl ⟨by
      have h0 : ¬ f i = 0 := fun z => h40 (by rw [z]; decide)
      have h1 : ¬ s / 2 ^ i % 2 = 1 := fun z => h26 (by rw [z]; decide)
      unfold mtW; rw [if_neg (fun z => z.elim h0 h1)]; rfl, rfl, rfl⟩
    · refine Ev_const rfl ?_
      exact Ev_ireturn rfl rfl rfl rfl ⟨by
      have h0 : f i = 0 := Decidable.byContradiction fun z => absurd (Decidable.not_not.mp h40) (nI_ne0 (Nat.pos_of_ne_zero z) (by omega))
      unfold mtW; rw [if_pos (Or.inl h0)]; rfl, rfl, rfl⟩
theorem m_matchBy0 (d : Nat) {b s : Nat} {σ : St} {nx : Nat → Nat} (hρ : RF ρ) (hb : b < 6) (hs : s < 256) (hn : MTbl σ (b + 1) nx) :
    T l X d 241 [.ref 326, .int (nI b), .int (nI s), .int (-1)] 402 402 ρ σ (Rs (.int (nI (nx s))) ρ σ) := by
  refine T_of rfl ?_
  refine Ev_iload rfl rfl ?_
  refine Ev_const rfl ?_
  refine Ev_icmp_ne rfl (fun h2 => absurd rfl h2) (fun h2 => ?_)
  refine Ev_aload rfl rfl rfl ?_
  refine Ev_getR rfl (by first | rfl | assumption) (hρ _ _ _ rfl) ?_
  refine Ev_const rfl ?_
  refine Ev_iload rfl rfl ?_
  refine Ev_const rfl ?_
  refine Ev_iadd rfl ?_
  refine Ev_norm (nI_1 b) ?_
  refine Ev_imul rfl ?_
  refine Ev_norm (pk_mul 256 (b + 1)) ?_
  refine Ev_iload rfl rfl ?_
  refine Ev_iadd rfl ?_
  refine Ev_norm (nI_add (256 * (b + 1)) s) ?_
  refine Ev_iald rfl (by first | rfl | assumption) (vp_in_nI (n := 256 * (b + 1) + s) (show 256 * (b + 1) + s < 1792 by omega) (by decide)) ?_
  refine Ev_norm (by rw [nI_clamp (by omega)]; exact hn s hs : _ = nI (nx s)) ?_
  exact Ev_ireturn rfl rfl rfl rfl ⟨rfl, rfl, rfl⟩
/-- worths laid for the bathers ahead of b -/
def MWo (σ : St) (B : Bh) (b : Nat) (g : Nat → Nat → Nat) : Prop := ∀ b', b' < b → ∀ i, i < ni B → σ.1 371 (8 * b' + i) = nI (g b' i)
theorem scPut {σ : St} {k : Nat} (f : Nat → Int32) (hk : k ≠ 326) (h : scC k = true) : MF scC scF σ (sI σ k f) := MF.cell _ hk h
theorem lw_in {d h tide b : Nat} {A : Ab} {σ0 : St} {w3 w4 : Value} {Q : Po} (hM : RM ρ σ0 A) (hA : WfA A) (hh : (aN A).1 = h) (ht9 : tide ≤ 9) (hb : b < nb (aB A))
    (hQ : ∀ σ, MF scC scF σ0 σ → σ.1 326 58 = nI tide → MWo σ (aB A) (b + 1) (gnM (aB A) (aN A).2.1 (wit (aB A)) h tide) → Ev l X (d + 6) 242 60 [.ref 326, .int (nI b), .int (nI (ni (aB A))), w3, w4] [] 402 402 402 ρ σ Q) :
    ∀ (m i : Nat) (σ : St), i + m = ni (aB A) → MF scC scF σ0 σ → σ.1 326 58 = nI tide → MWo σ (aB A) b (gnM (aB A) (aN A).2.1 (wit (aB A)) h tide) → (∀ i', i' < i → σ.1 371 (8 * b + i') = nI (gnM (aB A) (aN A).2.1 (wit (aB A)) h tide b i')) →
    Ev l X (d + 6) 242 16 [.ref 326, .int (nI b), .int (nI i), w3, w4] [] 402 402 402 ρ σ Q := by
  have hW := hA.1.1
  have hWt := hA.1.2.1
  have hWf := hA.1.2.2.1
  have n8 := hW.1
  have n6 := hW.2.1
  have nh := hA.2.1.1
  have hρ := hM.1
  have hle : ∀ b i, (aN A).2.1 b i ≤ 99 := fun b i => (hA.2.1.2.1 b i).1
  intro m
  induction m with
  | zero =>
    intro i σ hi hs hti hg1 hg2
    have hi : i = ni (aB A) := by omega
    subst hi
    refine Ev_iload rfl rfl ?_
    refine Ev_aload rfl rfl rfl ?_
    refine Ev_callV rfl rfl rfl rfl rfl (same_n 402) (m_ideaMany _ hρ (hM.mx hs).2.1.1) ?_
    rintro v18 ρ18 σ18 ⟨rfl, e18, g18⟩
    obtain rfl := e18.symm
    obtain rfl := g18.symm
    refine Ev_icmp_ge rfl (fun h21 => ?_) (fun h21 => absurd (nI_le (Nat.le_refl _) (by omega)) h21)
    exact hQ σ hs hti (fun b' hb' i hi => by
    by_cases hq : b' = b
    · subst hq; exact hg2 i hi
    · exact hg1 b' (by omega) i hi)
  | succ m ih =>
    intro i σ hi hs hti hg1 hg2
    have hM1 := hM.mx hs
    have nxt : ∀ (σ1 : St) (v : Nat), MSc σ σ1 → v = gnM (aB A) (aN A).2.1 (wit (aB A)) h tide b i →
        Ev l X (d + 6) 242 54 [.ref 326, .int (nI b), .int (nI i), w3, w4] [] 402 402 402 ρ (sI σ1 371 (upd (σ1.1 371) (8 * b + i) (nI v))) Q := by
      intro σ1 v c1 hv
      subst hv
      refine Ev_iincE rfl rfl (nI_1 i) ?_
      refine Ev_goto rfl ?_
      refine ih (i + 1) _ (by omega) ((hs.tr c1.mx).tr (scPut _ (by decide) rfl)) (by rw [sR_1 _ _ (by decide), c1.2.2 58 rfl]; exact hti) (fun b' hb' i' hi' => ?_) (fun i' hi' => ?_)
      · rw [sR_0, pk_un (by omega), c1.1 371 (by decide)]; exact hg1 b' hb' i' hi'
      · rw [sR_0]
        by_cases hq : i' = i
        · subst hq; rw [pk_us]
        · rw [pk_un (by omega), c1.1 371 (by decide)]; exact hg2 i' (by omega)
    refine Ev_iload rfl rfl ?_
    refine Ev_aload rfl rfl rfl ?_
    refine Ev_callV rfl rfl rfl rfl rfl (same_n 402) (m_ideaMany _ hρ hM1.2.1.1) ?_
    rintro v18 ρ18 σ18 ⟨rfl, e18, g18⟩
    obtain rfl := e18.symm
    obtain rfl := g18.symm
    refine Ev_icmp_ge rfl (fun h21 => absurd h21 (nI_ge (by omega) (by omega))) (fun h21 => ?_)
    refine Ev_aload rfl rfl rfl ?_
    refine Ev_getR rfl (by first | rfl | assumption) (hρ _ _ _ rfl) ?_
    refine Ev_const rfl ?_
    refine Ev_iload rfl rfl ?_
    refine Ev_imul rfl ?_
    refine Ev_norm (pk_mul 8 b) ?_
    refine Ev_iload rfl rfl ?_
    refine Ev_iadd rfl ?_
    refine Ev_norm (nI_add (8 * b) i) ?_
    refine Ev_aload rfl rfl rfl ?_
    refine Ev_iload rfl rfl ?_
    refine Ev_iload rfl rfl ?_
    refine Ev_callV rfl rfl rfl rfl rfl (same_n 402) (m_isReady _ hρ (hM1.rd hW) hM1.2.1.2.2.1 hW hWt hWf hle (wf9 hA) (by omega) hti ht9 hb (by omega)) ?_
    rintro v37 ρ37 σ37 ⟨rfl, e37, s37⟩
    obtain rfl := e37.symm
    refine Ev_if_eq rfl (fun h40 => ?_) (fun h40 => ?_)
    · refine Ev_const rfl ?_
      refine Ev_iast rfl (by first | rfl | assumption) (vp_in_nI (n := 8 * b + i) (show 8 * b + i < 48 by omega) (by decide)) ?_
      rw [nI_clamp (show 8 * b + i < 2 ^ 31 by omega)]
      exact nxt σ37 0 s37 (by unfold gnM; rw [← hh, ff_of h40]; rfl)
    · refine Ev_aload rfl rfl rfl ?_
      refine Ev_iload rfl rfl ?_
      refine Ev_iload rfl rfl ?_
      refine Ev_callV rfl rfl rfl rfl rfl (same_n 402) (m_keptOf _ hρ ((hM1.rd hW).sc s37) (hM1.2.1.2.2.1.sc s37) hW hWt hWf hle (wf9 hA) (by omega) (by rw [s37.2.2 58 rfl]; exact hti) ht9 hb (by omega)) ?_
      rintro v46 ρ46 σ46 ⟨rfl, e46, s46⟩
      obtain rfl := e46.symm
      refine Ev_goto rfl ?_
      refine Ev_iast rfl (by first | rfl | assumption) (vp_in_nI (n := 8 * b + i) (show 8 * b + i < 48 by omega) (by decide)) ?_
      rw [nI_clamp (show 8 * b + i < 2 ^ 31 by omega)]
      subst hh
      exact nxt σ46 _ (s37.tr s46) (by unfold gnM; rw [rt_of h40]; rfl)
theorem lw_loop {d h tide : Nat} {A : Ab} {σ0 : St} {w3 w4 : Value} {Q : Po} (hM : RM ρ σ0 A) (hA : WfA A) (hh : (aN A).1 = h) (ht9 : tide ≤ 9)
    (hQ : ∀ σ w2, MF scC scF σ0 σ → MWo σ (aB A) (nb (aB A)) (gnM (aB A) (aN A).2.1 (wit (aB A)) h tide) → Ev l X (d + 6) 242 66 [.ref 326, .int (nI (nb (aB A))), w2, w3, w4] [] 402 402 402 ρ σ Q) :
    ∀ (m b : Nat) (σ : St) (w2 : Value), b + m = nb (aB A) → MF scC scF σ0 σ → σ.1 326 58 = nI tide → MWo σ (aB A) b (gnM (aB A) (aN A).2.1 (wit (aB A)) h tide) →
    Ev l X (d + 6) 242 6 [.ref 326, .int (nI b), w2, w3, w4] [] 402 402 402 ρ σ Q := by
  have hW := hA.1.1
  have n6 := hW.2.1
  have hρ := hM.1
  intro m
  induction m with
  | zero =>
    intro b σ w2 hb hs hti hg1
    have hb : b = nb (aB A) := by omega
    subst hb
    refine Ev_iload rfl rfl ?_
    refine Ev_aload rfl rfl rfl ?_
    refine Ev_callV rfl rfl rfl rfl rfl (same_n 402) (m_batherMany _ hρ (hM.mx hs).2.1.1) ?_
    rintro v8 ρ8 σ8 ⟨rfl, e8, g8⟩
    obtain rfl := e8.symm
    obtain rfl := g8.symm
    refine Ev_icmp_ge rfl (fun h11 => ?_) (fun h11 => absurd (nI_le (Nat.le_refl _) (by omega)) h11)
    exact hQ σ _ hs hg1
  | succ m ih =>
    intro b σ w2 hb hs hti hg1
    refine Ev_iload rfl rfl ?_
    refine Ev_aload rfl rfl rfl ?_
    refine Ev_callV rfl rfl rfl rfl rfl (same_n 402) (m_batherMany _ hρ (hM.mx hs).2.1.1) ?_
    rintro v8 ρ8 σ8 ⟨rfl, e8, g8⟩
    obtain rfl := e8.symm
    obtain rfl := g8.symm
    refine Ev_icmp_ge rfl (fun h11 => absurd h11 (nI_ge (by omega) (by omega))) (fun h11 => ?_)
    refine Ev_const rfl ?_
    refine Ev_istore rfl ?_
    refine lw_in (d := d) hM hA hh ht9 (show b < nb (aB A) by omega) (fun σ1 c1 t1 g1 => ?_) (ni (aB A)) 0 σ (by omega) hs hti hg1 (fun i' hi' => absurd hi' (Nat.not_lt_zero _))
    refine Ev_iincE rfl rfl (nI_1 b) ?_
    refine Ev_goto rfl ?_
    exact ih (b + 1) σ1 _ (by omega) c1 t1 g1
theorem lz_loop {d : Nat} {A : Ab} {σ0 : St} {w2 w3 w4 : Value} {g : Nat → Nat → Nat} {Q : Po} (hM : RM ρ σ0 A) (hA : WfA A)
    (hQ : ∀ σ, MF scC scF σ0 σ → MWo σ (aB A) (nb (aB A)) g → MTbl σ (nb (aB A)) (fun _ => 0) → Ev l X (d + 6) 242 97 [.ref 326, .int (nI 256), w2, w3, w4] [] 402 402 402 ρ σ Q) :
    ∀ (m s : Nat) (σ : St), s + m = 256 → MF scC scF σ0 σ → MWo σ (aB A) (nb (aB A)) g → (∀ s', s' < s → σ.1 370 (256 * nb (aB A) + s') = nI 0) →
    Ev l X (d + 6) 242 68 [.ref 326, .int (nI s), w2, w3, w4] [] 402 402 402 ρ σ Q := by
  have hW := hA.1.1
  have n6 := hW.2.1
  have hρ := hM.1
  intro m
  induction m with
  | zero =>
    intro s σ hs hc hg hz
    have hs : s = 256 := by omega
    subst hs
    refine Ev_iload rfl rfl ?_
    refine Ev_const rfl ?_
    refine Ev_icmp_ge rfl (fun h72 => ?_) (fun h72 => absurd (by decide) h72)
    exact hQ σ hc hg hz
  | succ m ih =>
    intro s σ hs hc hg hz
    refine Ev_iload rfl rfl ?_
    refine Ev_const rfl ?_
    refine Ev_icmp_ge rfl (fun h72 => absurd h72 (nI_ge (b := 256) (by omega) (by decide))) (fun h72 => ?_)
    refine Ev_aload rfl rfl rfl ?_
    refine Ev_getR rfl (by first | rfl | assumption) (hρ _ _ _ rfl) ?_
    refine Ev_const rfl ?_
    refine Ev_aload rfl rfl rfl ?_
    refine Ev_callV rfl rfl rfl rfl rfl (same_n 402) (m_batherMany _ hρ (hM.mx hc).2.1.1) ?_
    rintro v83 ρ83 σ83 ⟨rfl, e83, g83⟩
    obtain rfl := e83.symm
    obtain rfl := g83.symm
    refine Ev_imul rfl ?_
    refine Ev_norm (pk_mul 256 (nb (aB A))) ?_
    refine Ev_iload rfl rfl ?_
    refine Ev_iadd rfl ?_
    refine Ev_norm (nI_add (256 * nb (aB A)) s) ?_
    refine Ev_const rfl ?_
    refine Ev_iast rfl (by first | rfl | assumption) (vp_in_nI (n := 256 * nb (aB A) + s) (show 256 * nb (aB A) + s < 1792 by omega) (by decide)) ?_
    rw [nI_clamp (show 256 * nb (aB A) + s < 2 ^ 31 by omega)]
    refine Ev_iincE rfl rfl (nI_1 s) ?_
    refine Ev_goto rfl ?_
    refine ih (s + 1) _ (by omega) (hc.tr (scPut _ (by decide) rfl)) (fun b hb i hi => by rw [sR_1 _ _ (by decide)]; exact hg b hb i hi) (fun s' hs' => ?_)
    rw [sR_0]
    by_cases hq : s' = s
    · subst hq; rw [pk_us]; rfl
    · rw [pk_un (by omega)]; exact hz s' (by omega)
theorem lg_loop2 {d b s : Nat} {A : Ab} {σ : St} {f nx : Nat → Nat} {Q : Po} (hM : RM ρ σ A) (hA : WfA A) (hb : b < 6) (hs : s < 256) (hg : ∀ i, i < ni (aB A) → σ.1 371 (8 * b + i) = nI (f i)) (hf : ∀ i, f i ≤ 99) (hn : MTbl σ (b + 1) nx) (hnx : ∀ s, nx s ≤ 594)
    (hQ : Ev l X (d + 6) 242 158 [.ref 326, .int (nI b), .int (nI s), .int (nI (mG f nx s (ni (aB A)))), .int (nI (ni (aB A)))] [] 402 402 402 ρ σ Q) :
    ∀ (m k : Nat), k + m = ni (aB A) → Ev l X (d + 6) 242 122 [.ref 326, .int (nI b), .int (nI s), .int (nI (mG f nx s k)), .int (nI k)] [] 402 402 402 ρ σ Q := by
  have hW := hA.1.1
  have n8 := hW.1
  have hρ := hM.1
  intro m
  induction m with
  | zero =>
    intro k hk
    have hk : k = ni (aB A) := by omega
    subst hk
    refine Ev_iload rfl rfl ?_
    refine Ev_aload rfl rfl rfl ?_
    refine Ev_callV rfl rfl rfl rfl rfl (same_n 402) (m_ideaMany _ hρ hM.2.1.1) ?_
    rintro v125 ρ125 σ125 ⟨rfl, e125, g125⟩
    obtain rfl := e125.symm
    obtain rfl := g125.symm
    refine Ev_icmp_ge rfl (fun h128 => ?_) (fun h128 => absurd (nI_le (Nat.le_refl _) (by omega)) h128)
    exact hQ
  | succ m ih =>
    intro k hk
    have a1 := mG_le (s := s) hf hnx k
    have e1 : mG f nx s (k + 1) = mxO (mG f nx s k) (mtW f nx s k) := rfl
    refine Ev_iload rfl rfl ?_
    refine Ev_aload rfl rfl rfl ?_
    refine Ev_callV rfl rfl rfl rfl rfl (same_n 402) (m_ideaMany _ hρ hM.2.1.1) ?_
    rintro v125 ρ125 σ125 ⟨rfl, e125, g125⟩
    obtain rfl := e125.symm
    obtain rfl := g125.symm
    refine Ev_icmp_ge rfl (fun h128 => absurd h128 (nI_ge (by omega) (by omega))) (fun h128 => ?_)
    refine Ev_aload rfl rfl rfl ?_
    refine Ev_iload rfl rfl ?_
    refine Ev_iload rfl rfl ?_
    refine Ev_iload rfl rfl ?_
    refine Ev_callV rfl rfl rfl rfl rfl (same_n 402) (m_matchBy _ hρ hb (by omega) hs (hg k (by omega)) hf hn hnx) ?_
    rintro v136 ρ136 σ136 ⟨rfl, e136, g136⟩
    obtain rfl := e136.symm
    obtain rfl := g136.symm
    refine Ev_iload rfl rfl ?_
    refine Ev_icmp_le rfl (fun h140 => ?_) (fun h140 => ?_)
    · refine Ev_iincE rfl rfl (nI_1 k) ?_
      refine Ev_goto rfl ?_
      have e2 : mG f nx s (k + 1) = mG f nx s k := by
        rw [e1]
        cases hw : mtW f nx s k with
        | none => rfl
        | some v =>
          rw [hw] at h140
          have := (nI_leI (mW_lt hf hnx hw) (by omega)).mp h140
          show (if mG f nx s k < v then v else mG f nx s k) = _
          rw [if_neg (by omega)]
      have := ih (k + 1) (by omega)
      rw [e2] at this
      exact this
    · refine Ev_aload rfl rfl rfl ?_
      refine Ev_iload rfl rfl ?_
      refine Ev_iload rfl rfl ?_
      refine Ev_iload rfl rfl ?_
      refine Ev_callV rfl rfl rfl rfl rfl (same_n 402) (m_matchBy _ hρ hb (by omega) hs (hg k (by omega)) hf hn hnx) ?_
      rintro v148 ρ148 σ148 ⟨rfl, e148, g148⟩
      obtain rfl := e148.symm
      obtain rfl := g148.symm
      refine Ev_istore rfl ?_
      refine Ev_iincE rfl rfl (nI_1 k) ?_
      refine Ev_goto rfl ?_
      have e2 : plV (mtW f nx s k) = nI (mG f nx s (k + 1)) := by
        rw [e1]
        cases hw : mtW f nx s k with
        | none =>
          rw [hw] at h140
          exact absurd (by
            show (-1 : Int32) ≤ _
            rw [Int32.le_iff_toInt_le, nI_toInt (by omega)]
            have e : (-1 : Int32).toInt = -1 := rfl
            omega) h140
        | some v =>
          rw [hw] at h140
          show nI v = nI (if mG f nx s k < v then v else mG f nx s k)
          rw [if_pos (Nat.lt_of_not_le (fun z => h140 (nI_le z (by omega))))]
      rw [e2]
      exact ih (k + 1) (by omega)
theorem lt_in {d b : Nat} {A : Ab} {σ0 : St} {g : Nat → Nat → Nat} {Q : Po} (hM : RM ρ σ0 A) (hA : WfA A) (hb : b < nb (aB A)) (hg99 : ∀ b i, g b i ≤ 99)
    (hQ : ∀ σ w3 w4, MF scC scF σ0 σ → MWo σ (aB A) (nb (aB A)) g → (∀ b', b ≤ b' → b' ≤ nb (aB A) → MTbl σ b' (mB g (ni (aB A)) (nb (aB A)) b')) → Ev l X (d + 6) 242 177 [.ref 326, .int (nI b), .int (nI 256), w3, w4] [] 402 402 402 ρ σ Q) :
    ∀ (m s : Nat) (σ : St) (w3 w4 : Value), s + m = 256 → MF scC scF σ0 σ → MWo σ (aB A) (nb (aB A)) g → (∀ b', b + 1 ≤ b' → b' ≤ nb (aB A) → MTbl σ b' (mB g (ni (aB A)) (nb (aB A)) b')) → (∀ s', s' < s → σ.1 370 (256 * b + s') = nI (mB g (ni (aB A)) (nb (aB A)) b s')) →
    Ev l X (d + 6) 242 110 [.ref 326, .int (nI b), .int (nI s), w3, w4] [] 402 402 402 ρ σ Q := by
  have hW := hA.1.1
  have n6 := hW.2.1
  have n8 := hW.1
  have hρ := hM.1
  intro m
  induction m with
  | zero =>
    intro s σ w3 w4 hs hc hg ht hz
    have hs : s = 256 := by omega
    subst hs
    refine Ev_iload rfl rfl ?_
    refine Ev_const rfl ?_
    refine Ev_icmp_ge rfl (fun h114 => ?_) (fun h114 => absurd (by decide) h114)
    exact hQ σ _ _ hc hg (fun b' h1 h2 => by
    by_cases hq : b' = b
    · subst hq; exact hz
    · exact ht b' (by omega) h2)
  | succ m ih =>
    intro s σ w3 w4 hs hc hg ht hz
    have hM1 := hM.mx hc
    have hnx := fun s => mB_le (n := ni (aB A)) (b := b + 1) hg99 n6 s
    have hT1 := ht (b + 1) (Nat.le_refl _) (by omega)
    have a0 := hnx s
    have go : Ev l X (d + 6) 242 122 [.ref 326, .int (nI b), .int (nI s), .int (nI (mG (g b) (mB g (ni (aB A)) (nb (aB A)) (b + 1)) s 0)), .int (nI 0)] [] 402 402 402 ρ σ Q := by
      refine lg_loop2 (d := d) hM1 hA (by omega) (by omega) (hg b hb) (hg99 b) hT1 hnx ?_ (ni (aB A)) 0 (by omega)
      rw [← mB_s hb]
      refine Ev_aload rfl rfl rfl ?_
      refine Ev_getR rfl (by first | rfl | assumption) (hρ _ _ _ rfl) ?_
      refine Ev_const rfl ?_
      refine Ev_iload rfl rfl ?_
      refine Ev_imul rfl ?_
      refine Ev_norm (pk_mul 256 b) ?_
      refine Ev_iload rfl rfl ?_
      refine Ev_iadd rfl ?_
      refine Ev_norm (nI_add (256 * b) s) ?_
      refine Ev_iload rfl rfl ?_
      refine Ev_iast rfl (by first | rfl | assumption) (vp_in_nI (n := 256 * b + s) (show 256 * b + s < 1792 by omega) (by decide)) ?_
      rw [nI_clamp (show 256 * b + s < 2 ^ 31 by omega)]
      refine Ev_iincE rfl rfl (nI_1 s) ?_
      refine Ev_goto rfl ?_
      refine ih (s + 1) _ _ _ (by omega) (hc.tr (scPut _ (by decide) rfl)) (fun b hb i hi => by rw [sR_1 _ _ (by decide)]; exact hg b hb i hi) (fun b' h1 h2 s' hs' => by rw [sR_0, pk_un (by omega)]; exact ht b' h1 h2 s' hs') (fun s' hs' => ?_)
      rw [sR_0]
      by_cases hq : s' = s
      · subst hq; rw [pk_us]
      · rw [pk_un (by omega)]; exact hz s' (by omega)
    refine Ev_iload rfl rfl ?_
    refine Ev_const rfl ?_
    refine Ev_icmp_ge rfl (fun h114 => absurd h114 (nI_ge (b := 256) (by omega) (by decide))) (fun h114 => ?_)
    refine Ev_const rfl ?_
    refine Ev_istore rfl ?_
    refine Ev_const rfl ?_
    refine Ev_istore rfl ?_
    refine Ev_iload rfl rfl ?_
    refine Ev_aload rfl rfl rfl ?_
    refine Ev_callV rfl rfl rfl rfl rfl (same_n 402) (m_ideaMany _ hρ hM1.2.1.1) ?_
    rintro v125 ρ125 σ125 ⟨rfl, e125, g125⟩
    obtain rfl := e125.symm
    obtain rfl := g125.symm
    refine Ev_icmp_ge rfl (fun h128 => absurd h128 (fun z => by
    rw [Int32.le_iff_toInt_le, nI_toInt (by omega)] at z
    have e : (-1 : Int32).toInt = -1 := rfl
    omega)) (fun h128 => ?_)
    refine Ev_aload rfl rfl rfl ?_
    refine Ev_iload rfl rfl ?_
    refine Ev_iload rfl rfl ?_
    refine Ev_iload rfl rfl ?_
    refine Ev_callV rfl rfl rfl rfl rfl (same_n 402) (m_matchBy0 _ hρ (by omega) (by omega) hT1) ?_
    rintro v136 ρ136 σ136 ⟨rfl, e136, g136⟩
    obtain rfl := e136.symm
    obtain rfl := g136.symm
    refine Ev_iload rfl rfl ?_
    refine Ev_icmp_le rfl (fun h140 => ?_) (fun h140 => ?_)
    · refine Ev_iincE rfl rfl (show (-1 : Int32) + 1 = nI 0 from rfl) ?_
      refine Ev_goto rfl ?_
      have e0 : mB g (ni (aB A)) (nb (aB A)) (b + 1) s = 0 := Decidable.byContradiction fun z => absurd h140 (nI_nle (Nat.pos_of_ne_zero z) (by omega))
      have e : (0 : Int32) = nI (mG (g b) (mB g (ni (aB A)) (nb (aB A)) (b + 1)) s 0) := by
        show _ = nI (mB g (ni (aB A)) (nb (aB A)) (b + 1) s)
        rw [e0]; rfl
      rw [e]
      exact go
    · refine Ev_aload rfl rfl rfl ?_
      refine Ev_iload rfl rfl ?_
      refine Ev_iload rfl rfl ?_
      refine Ev_iload rfl rfl ?_
      refine Ev_callV rfl rfl rfl rfl rfl (same_n 402) (m_matchBy0 _ hρ (by omega) (by omega) hT1) ?_
      rintro v148 ρ148 σ148 ⟨rfl, e148, g148⟩
      obtain rfl := e148.symm
      obtain rfl := g148.symm
      refine Ev_istore rfl ?_
      refine Ev_iincE rfl rfl (show (-1 : Int32) + 1 = nI 0 from rfl) ?_
      refine Ev_goto rfl ?_
      exact go
theorem m_laysMatch (d : Nat) {A : Ab} {σ : St} (hM : RM ρ σ A) (hA : WfA A) :
    T l X (d + 7) 242 [.ref 326] 402 402 ρ σ (fun v ρ' σ' => v = none ∧ ρ' = ρ ∧ MF scC scF σ σ' ∧ MWo σ' (aB A) (nb (aB A)) (gnM (aB A) (aN A).2.1 (wit (aB A)) (aN A).1 (tdM (aB A) (aN A).1)) ∧ ∀ b, b ≤ nb (aB A) → MTbl σ' b (mB (gnM (aB A) (aN A).2.1 (wit (aB A)) (aN A).1 (tdM (aB A) (aN A).1)) (ni (aB A)) (nb (aB A)) b)) := by
  have hW := hA.1.1
  have hWt := hA.1.2.1
  have hWf := hA.1.2.2.1
  have n6 := hW.2.1
  have nh := hA.2.1.1
  have hρ := hM.1
  have hle : ∀ b i, (aN A).2.1 b i ≤ 99 := fun b i => (hA.2.1.2.1 b i).1
  have hg99 := gnM_le (aB A) (aN A).2.1 (wit (aB A)) (aN A).1 (tdM (aB A) (aN A).1)
  generalize hge : gnM (aB A) (aN A).2.1 (wit (aB A)) (aN A).1 (tdM (aB A) (aN A).1) = g at hg99
  have down : ∀ (k : Nat) (σ1 : St) (w2 w3 w4 : Value), k ≤ nb (aB A) → MF scC scF σ σ1 → MWo σ1 (aB A) (nb (aB A)) g → (∀ b', k ≤ b' → b' ≤ nb (aB A) → MTbl σ1 b' (mB g (ni (aB A)) (nb (aB A)) b')) →
      Ev l X (d + 7) 242 104 [.ref 326, .int (nI k - 1), w2, w3, w4] [] 402 402 402 ρ σ1 (fun v ρ' σ' => v = none ∧ ρ' = ρ ∧ MF scC scF σ σ' ∧ MWo σ' (aB A) (nb (aB A)) g ∧ ∀ b, b ≤ nb (aB A) → MTbl σ' b (mB g (ni (aB A)) (nb (aB A)) b)) := by
    intro k
    induction k with
    | zero =>
      intro σ1 w2 w3 w4 hk hc hg ht
      refine Ev_iload rfl rfl ?_
      refine Ev_if_lt rfl (fun h105 => ?_) (fun h105 => absurd (by decide) h105)
      exact Ev_return rfl rfl rfl ⟨rfl, rfl, hc, hg, fun b hb => ht b (Nat.zero_le _) hb⟩
    | succ k ih =>
      intro σ1 w2 w3 w4 hk hc hg ht
      rw [nI_pred]
      refine Ev_iload rfl rfl ?_
      refine Ev_if_lt rfl (fun h105 => absurd h105 (nI_pos (by omega))) (fun h105 => ?_)
      refine Ev_const rfl ?_
      refine Ev_istore rfl ?_
      refine lt_in (d := d + 1) hM hA (show k < nb (aB A) by omega) hg99 (fun σ2 u3 u4 c2 g2 t2 => ?_) 256 0 σ1 _ _ (by decide) hc hg (fun b' h1 h2 => ht b' h1 h2) (fun s' hs' => absurd hs' (Nat.not_lt_zero _))
      refine Ev_iincE rfl rfl (show nI k + -1 = nI k - 1 from (Int32.sub_eq_add_neg _ _).symm) ?_
      refine Ev_goto rfl ?_
      exact ih σ2 _ _ _ (by omega) c2 g2 t2
  refine T_of rfl ?_
  refine Ev_aload rfl rfl rfl ?_
  refine Ev_callV rfl rfl rfl rfl rfl (same_n 402) (m_laysTide _ hρ (hM.rd hW) hM.2.1.2.2.1 hW hWt hWf hle (wf9 hA) (by omega)) ?_
  rintro v1 ρ1 σ1 ⟨rfl, e1, t1⟩
  obtain rfl := e1.symm
  refine Ev_const rfl ?_
  refine Ev_istore rfl ?_
  refine lw_loop (d := d + 1) hM hA rfl (tdM_le _ _) (fun σ2 w2 c2 g2 => ?_) (nb (aB A)) 0 σ1 _ (by omega) t1.mx t1.2.2.2 (fun b' hb' => absurd hb' (Nat.not_lt_zero _))
  rw [hge] at g2
  refine Ev_const rfl ?_
  refine Ev_istore rfl ?_
  refine lz_loop (d := d + 1) hM hA (fun σ3 c3 g3 z3 => ?_) 256 0 σ2 (by decide) c2 g2 (fun s' hs' => absurd hs' (Nat.not_lt_zero _))
  refine Ev_aload rfl rfl rfl ?_
  refine Ev_callV rfl rfl rfl rfl rfl (same_n 402) (m_batherMany _ hρ (hM.mx c3).2.1.1) ?_
  rintro v98 ρ98 σ98 ⟨rfl, e98, g98⟩
  obtain rfl := e98.symm
  obtain rfl := g98.symm
  refine Ev_const rfl ?_
  refine Ev_isub rfl ?_
  refine Ev_istore rfl ?_
  refine down (nb (aB A)) σ3 _ _ _ (Nat.le_refl _) c3 g3 (fun b' h1 h2 => ?_)
  have hq : b' = nb (aB A) := by omega
  subst hq
  intro s hs
  rw [mB_m]
  exact z3 s hs
end S86
