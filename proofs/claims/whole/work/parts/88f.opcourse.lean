/-! A course: the rows of choices one behind another; the call. -/
section S88f
variable {l : Launch} {X : Cx} {ρ : Rf}
/-- the odometer: from the place t - 1 down -/
theorem go_loop {d n p e : Nat} {B : Bh} {σ : St} (hρ : RF ρ) (hN : ∀ f : Nat → Int32, MNum (sI σ 369 f) B) (hW : WfN B) (hn : n ≤ 4) (he : e < ni B) :
    ∀ (m t : Nat) (f : Nat → Int32), t = p + 1 + m → t ≤ n → (∀ k, p < k → k < t → f k = dgV (ni B)) → (∀ k, t ≤ k → k < n → f k = dgV 0) → f p = dgV e →
    Ev l X (d + 1) 235 4 [.ref 326, .int (nI n), .int (nI t - 1)] [] 402 402 402 ρ (sI σ 369 f) (fun v ρ' σ' => v = some (.int 1) ∧ ρ' = ρ ∧ ∃ f', σ' = sI σ 369 f' ∧ f' p = dgV (e + 1) ∧ (∀ k, p < k → k < n → f' k = dgV 0) ∧ ∀ k, k < p → f' k = f k) := by
  have n8 := hW.1
  intro m
  induction m with
  | zero =>
    intro t f ht htn h1 h2 h3
    have ht : t = p + 1 := ht
    subst ht
    rw [nI_pred]
    refine Ev_iload rfl rfl ?_
    refine Ev_if_lt rfl (fun h5 => absurd h5 (nI_pos (by omega))) (fun h5 => ?_)
    refine Ev_aload rfl rfl rfl ?_
    refine Ev_getR rfl (by first | rfl | assumption) (hρ _ _ _ rfl) ?_
    refine Ev_iload rfl rfl ?_
    refine Ev_iald rfl (by first | rfl | assumption) (vp_in_nI (n := p) (show p < 4 by omega) (by decide)) ?_
    refine Ev_norm (by rw [nI_clamp (by omega), sR_0]; exact h3 : _ = dgV e) ?_
    refine Ev_aload rfl rfl rfl ?_
    refine Ev_callV rfl rfl rfl rfl rfl (same_n 402) (m_ideaMany _ hρ (hN f)) ?_
    rintro v15 ρ15 σ15 ⟨rfl, e15, g15⟩
    obtain rfl := e15.symm
    obtain rfl := g15.symm
    refine Ev_const rfl ?_
    refine Ev_isub rfl ?_
    refine Ev_icmp_ne rfl (fun h20 => ?_) (fun h20 => absurd (fun z => by have := (dgV_eq (by omega) (by omega)).mp z; omega) h20)
    refine Ev_iload rfl rfl ?_
    refine Ev_if_ge rfl (fun h37 => ?_) (fun h37 => absurd (nI_le (a := 0) (Nat.zero_le p) (by omega)) h37)
    refine Ev_aload rfl rfl rfl ?_
    refine Ev_getR rfl (by first | rfl | assumption) (hρ _ _ _ rfl) ?_
    refine Ev_iload rfl rfl ?_
    refine Ev_dup2 rfl (fun _ q => nomatch q) (fun _ q => nomatch q) ?_
    refine Ev_iald rfl (by first | rfl | assumption) (vp_in_nI (n := p) (show p < 4 by omega) (by decide)) ?_
    refine Ev_norm (by rw [nI_clamp (by omega), sR_0]; exact h3 : _ = dgV e) ?_
    refine Ev_const rfl ?_
    refine Ev_iadd rfl ?_
    refine Ev_norm (dgV_1 e) ?_
    refine Ev_iast rfl (by first | rfl | assumption) (vp_in_nI (n := p) (show p < 4 by omega) (by decide)) ?_
    rw [nI_clamp (show p < 2 ^ 31 by omega), sI_sI, sR_0]
    refine Ev_const rfl ?_
    exact Ev_ireturn rfl rfl rfl rfl ⟨rfl, rfl, _, rfl, pk_us, fun k q1 q2 => by rw [pk_un (by omega)]; exact h2 k (by omega) q2, fun k q1 => pk_un (by omega)⟩
  | succ m ih =>
    intro t f ht htn h1 h2 h3
    obtain ⟨u, rfl⟩ : ∃ u, t = u + 1 := ⟨t - 1, by omega⟩
    rw [nI_pred]
    refine Ev_iload rfl rfl ?_
    refine Ev_if_lt rfl (fun h5 => absurd h5 (nI_pos (by omega))) (fun h5 => ?_)
    refine Ev_aload rfl rfl rfl ?_
    refine Ev_getR rfl (by first | rfl | assumption) (hρ _ _ _ rfl) ?_
    refine Ev_iload rfl rfl ?_
    refine Ev_iald rfl (by first | rfl | assumption) (vp_in_nI (n := u) (show u < 4 by omega) (by decide)) ?_
    refine Ev_norm (by rw [nI_clamp (by omega), sR_0]; exact h1 u (by omega) (by omega) : _ = dgV (ni B)) ?_
    refine Ev_aload rfl rfl rfl ?_
    refine Ev_callV rfl rfl rfl rfl rfl (same_n 402) (m_ideaMany _ hρ (hN f)) ?_
    rintro v15 ρ15 σ15 ⟨rfl, e15, g15⟩
    obtain rfl := e15.symm
    obtain rfl := g15.symm
    refine Ev_const rfl ?_
    refine Ev_isub rfl ?_
    refine Ev_icmp_ne rfl (fun h20 => absurd rfl h20) (fun h20 => ?_)
    refine Ev_aload rfl rfl rfl ?_
    refine Ev_getR rfl (by first | rfl | assumption) (hρ _ _ _ rfl) ?_
    refine Ev_iload rfl rfl ?_
    refine Ev_const rfl ?_
    refine Ev_iast rfl (by first | rfl | assumption) (vp_in_nI (n := u) (show u < 4 by omega) (by decide)) ?_
    rw [nI_clamp (show u < 2 ^ 31 by omega), sI_sI, sR_0]
    refine Ev_iincE rfl rfl (show nI u + -1 = nI u - 1 from (Int32.sub_eq_add_neg _ _).symm) ?_
    refine Ev_goto rfl ?_
    refine (ih u (upd f u (-1)) (by omega) (by omega) (fun k q1 q2 => by rw [pk_un (by omega)]; exact h1 k q1 (by omega)) (fun k q1 q2 => ?_) (by rw [pk_un (by omega)]; exact h3)).mono (fun v ρ' σ' hq => ?_)
    · by_cases hk : k = u
      · subst hk; rw [pk_us]; rfl
      · rw [pk_un hk]; exact h2 k (by omega) q2
    · obtain ⟨a1, a2, f', a3, a4, a5, a6⟩ := hq
      exact ⟨a1, a2, f', a3, a4, a5, fun k hk => by rw [a6 k hk, pk_un (by omega)]⟩
theorem m_goesOn (d : Nat) {n p e : Nat} {B : Bh} {σ : St} (hρ : RF ρ) (hN : MNum σ B) (hW : WfN B) (hn : n ≤ 4) (he : e < ni B) (hp : p < n) (h1 : ∀ k, p < k → k < n → σ.1 369 k = dgV (ni B)) (h3 : σ.1 369 p = dgV e) :
    T l X (d + 1) 235 [.ref 326, .int (nI n)] 402 402 ρ σ (fun v ρ' σ' => v = some (.int 1) ∧ ρ' = ρ ∧ ∃ f', σ' = sI σ 369 f' ∧ f' p = dgV (e + 1) ∧ (∀ k, p < k → k < n → f' k = dgV 0) ∧ ∀ k, k < p → f' k = σ.1 369 k) := by
  refine T_of rfl ?_
  refine Ev_iload rfl rfl ?_
  refine Ev_const rfl ?_
  refine Ev_isub rfl ?_
  refine Ev_istore rfl ?_
  have := go_loop (l := l) (X := X) (d := d) hρ (fun f => hN.mf (MF.cell (C := scC) (Fd := scF) f (by decide) rfl) rfl) hW hn he (n - (p + 1)) n (σ.1 369) (by omega) (Nat.le_refl _) h1 (fun k q1 q2 => by omega) h3
  rw [sI_self] at this
  exact this
theorem m_goesEnd (d : Nat) {n : Nat} {B : Bh} {σ : St} (hρ : RF ρ) (hN : MNum σ B) (hW : WfN B) (hn : n ≤ 4) (h1 : ∀ k, k < n → σ.1 369 k = dgV (ni B)) :
    T l X (d + 1) 235 [.ref 326, .int (nI n)] 402 402 ρ σ (fun v ρ' σ' => v = some (.int 0) ∧ ρ' = ρ ∧ ∃ f', σ' = sI σ 369 f') := by
  have key : ∀ (t : Nat) (f : Nat → Int32), t ≤ n → (∀ k, k < t → f k = dgV (ni B)) → Ev l X (d + 1) 235 4 [.ref 326, .int (nI n), .int (nI t - 1)] [] 402 402 402 ρ (sI σ 369 f) (fun v ρ' σ' => v = some (.int 0) ∧ ρ' = ρ ∧ ∃ f', σ' = sI σ 369 f') := by
    intro t
    induction t with
    | zero =>
      intro f ht h1
      refine Ev_iload rfl rfl ?_
      refine Ev_if_lt rfl (fun h5 => ?_) (fun h5 => absurd (by decide) h5)
      refine Ev_iload rfl rfl ?_
      refine Ev_if_ge rfl (fun h37 => absurd h37 (by decide)) (fun h37 => ?_)
      refine Ev_const rfl ?_
      exact Ev_ireturn rfl rfl rfl rfl ⟨rfl, rfl, f, rfl⟩
    | succ u ih =>
      intro f ht h1
      rw [nI_pred]
      refine Ev_iload rfl rfl ?_
      refine Ev_if_lt rfl (fun h5 => absurd h5 (nI_pos (by omega))) (fun h5 => ?_)
      refine Ev_aload rfl rfl rfl ?_
      refine Ev_getR rfl (by first | rfl | assumption) (hρ _ _ _ rfl) ?_
      refine Ev_iload rfl rfl ?_
      refine Ev_iald rfl (by first | rfl | assumption) (vp_in_nI (n := u) (show u < 4 by omega) (by decide)) ?_
      refine Ev_norm (by rw [nI_clamp (by omega), sR_0]; exact h1 u (by omega) : _ = dgV (ni B)) ?_
      refine Ev_aload rfl rfl rfl ?_
      refine Ev_callV rfl rfl rfl rfl rfl (same_n 402) (m_ideaMany _ hρ (hN.mf (MF.cell (C := scC) (Fd := scF) f (by decide) rfl) rfl)) ?_
      rintro v15 ρ15 σ15 ⟨rfl, e15, g15⟩
      obtain rfl := e15.symm
      obtain rfl := g15.symm
      refine Ev_const rfl ?_
      refine Ev_isub rfl ?_
      refine Ev_icmp_ne rfl (fun h20 => absurd rfl h20) (fun h20 => ?_)
      refine Ev_aload rfl rfl rfl ?_
      refine Ev_getR rfl (by first | rfl | assumption) (hρ _ _ _ rfl) ?_
      refine Ev_iload rfl rfl ?_
      refine Ev_const rfl ?_
      refine Ev_iast rfl (by first | rfl | assumption) (vp_in_nI (n := u) (show u < 4 by omega) (by decide)) ?_
      rw [nI_clamp (show u < 2 ^ 31 by omega), sI_sI, sR_0]
      refine Ev_iincE rfl rfl (show nI u + -1 = nI u - 1 from (Int32.sub_eq_add_neg _ _).symm) ?_
      refine Ev_goto rfl ?_
      exact ih (upd f u (-1)) (by omega) (fun k hk => by rw [pk_un (by omega)]; exact h1 k (by omega))
  refine T_of rfl ?_
  refine Ev_iload rfl rfl ?_
  refine Ev_const rfl ?_
  refine Ev_isub rfl ?_
  refine Ev_istore rfl ?_
  have := key n (σ.1 369) (Nat.le_refl _) h1
  rw [sI_self] at this
  exact this
theorem MTh.r0 {σ0 σ : St} {B : Bh} {S : Str} {W : Nat → Nat} {h : Nat} {P : Nat → Nat} (H : MTh σ0 B S W h P σ) (f : Nat → Int32) : MTh σ0 B S W h P (sI σ 369 f) :=
  H.sc (C := fun q => Nat.beq q 369) (Fd := cN0) (MF.cell f (by decide) rfl) rfl rfl rfl rfl (fun q hq => nbeq (fun z => by rw [z] at hq; cases hq)) (fun _ _ => rfl)
/-- a prefix's rows, all of them, in their order -/
theorem en_loop {d x y n : Nat} {A : Ab} {σ0 : St} {Q : Po} (hM : RM ρ σ0 A) (hA : WfA A) (hx : x < nb (aB A)) (hy : y < ni (aB A)) (hn : n ≤ 4) :
    ∀ (m p : Nat) (σ : St) (g : Nat → Nat), p + m = n → MTh σ0 (aB A) (aN A).2.1 (wit (aB A)) (aN A).1 (aN A).2.2.1 σ → (∀ k, k < p → σ.1 369 k = dgV (g k) ∧ g k ≤ ni (aB A)) → (∀ k, p ≤ k → k < n → σ.1 369 k = dgV 0) →
    (∀ L, cO (aB A) x (wit (aB A) x) y m ((aN A).1 + p) (evG (aB A) x (wit (aB A) x) g p 0 ((aN A).2.1 x) (aN A).1) = some L → ∀ σ', MTh σ0 (aB A) (aN A).2.1 (wit (aB A)) (aN A).1 (aN A).2.2.1 σ' → (∀ k, k < p → σ'.1 369 k = dgV (g k)) → (∀ j, j < m → σ'.1 369 (p + j) = dgV (L.getD j 0)) → Q (some (.int 1)) ρ σ') →
    (cO (aB A) x (wit (aB A) x) y m ((aN A).1 + p) (evG (aB A) x (wit (aB A) x) g p 0 ((aN A).2.1 x) (aN A).1) = none → ∀ σ', MTh σ0 (aB A) (aN A).2.1 (wit (aB A)) (aN A).1 (aN A).2.2.1 σ' → (∀ k, k < p → σ'.1 369 k = dgV (g k)) → (∀ k, p ≤ k → k < n → σ'.1 369 k = dgV (ni (aB A))) → Ev l X (d + 8) 236 43 [.ref 326, .int (nI x), .int (nI y), .int (nI n), .int 1] [] 402 402 402 ρ σ' Q) →
    Ev l X (d + 8) 236 26 [.ref 326, .int (nI x), .int (nI y), .int (nI n), .int 1] [] 402 402 402 ρ σ Q := by
  have hW := hA.1.1
  have n8 := hW.1
  have hρ := hM.1
  intro m
  induction m with
  | zero =>
    intro p σ g hp H h1 h2 hok hno
    have hp : p = n := by omega
    subst hp
    rw [cO_0] at hok hno
    refine Ev_iload rfl rfl ?_
    refine Ev_if_eq rfl (fun h28 => absurd h28 (by decide)) (fun h28 => ?_)
    refine Ev_aload rfl rfl rfl ?_
    refine Ev_iload rfl rfl ?_
    refine Ev_iload rfl rfl ?_
    refine Ev_iload rfl rfl ?_
    refine Ev_callV rfl rfl rfl rfl rfl (same_n 402) (m_isCourse _ hM hA hx hy hn H h1) ?_
    rintro v35 ρ35 σ35 ⟨rfl, e35, t35, r35⟩
    obtain rfl := e35.symm
    refine Ev_if_eq rfl (fun h38 => ?_) (fun h38 => ?_)
    · refine hno (by rw [ff_of h38]; rfl) σ35 t35 (fun k hk => by rw [r35]; exact (h1 k hk).1) (fun k q1 q2 => by omega)
    · refine Ev_const rfl ?_
      exact Ev_ireturn rfl rfl rfl rfl (hok [] (by rw [rt_of h38]; rfl) σ35 t35 (fun k hk => by rw [r35]; exact (h1 k hk).1) (fun j hj => absurd hj (Nat.not_lt_zero j)))
  | succ m ih =>
    intro p σ g hp H h1 h2 hok hno
    rw [cO_s] at hok hno
    -- the choices at the place p
    have inner : ∀ (c e : Nat) (σ1 : St), e + c = ni (aB A) → MTh σ0 (aB A) (aN A).2.1 (wit (aB A)) (aN A).1 (aN A).2.2.1 σ1 → (∀ k, k < p → σ1.1 369 k = dgV (g k)) → σ1.1 369 p = dgV e → (∀ k, p < k → k < n → σ1.1 369 k = dgV 0) →
        (∀ L, fsC (fun e => cO (aB A) x (wit (aB A) x) y m ((aN A).1 + p + 1) ((evG (aB A) x (wit (aB A) x) g p 0 ((aN A).2.1 x) (aN A).1).bind (fun r => stC (aB A) x (wit (aB A) x) r ((aN A).1 + p) e))) (c + 1) e = some L → ∀ σ', MTh σ0 (aB A) (aN A).2.1 (wit (aB A)) (aN A).1 (aN A).2.2.1 σ' → (∀ k, k < p → σ'.1 369 k = dgV (g k)) → (∀ j, j < m + 1 → σ'.1 369 (p + j) = dgV (L.getD j 0)) → Q (some (.int 1)) ρ σ') →
        (fsC (fun e => cO (aB A) x (wit (aB A) x) y m ((aN A).1 + p + 1) ((evG (aB A) x (wit (aB A) x) g p 0 ((aN A).2.1 x) (aN A).1).bind (fun r => stC (aB A) x (wit (aB A) x) r ((aN A).1 + p) e))) (c + 1) e = none → ∀ σ', MTh σ0 (aB A) (aN A).2.1 (wit (aB A)) (aN A).1 (aN A).2.2.1 σ' → (∀ k, k < p → σ'.1 369 k = dgV (g k)) → (∀ k, p ≤ k → k < n → σ'.1 369 k = dgV (ni (aB A))) → Ev l X (d + 8) 236 43 [.ref 326, .int (nI x), .int (nI y), .int (nI n), .int 1] [] 402 402 402 ρ σ' Q) →
        Ev l X (d + 8) 236 26 [.ref 326, .int (nI x), .int (nI y), .int (nI n), .int 1] [] 402 402 402 ρ σ1 Q := by
      intro c
      induction c with
      | zero =>
        intro e σ1 he H1 a1 a2 a3 hok1 hno1
        have he : e = ni (aB A) := by omega
        have ev : evG (aB A) x (wit (aB A) x) (updN g p e) (p + 1) 0 ((aN A).2.1 x) (aN A).1 = (evG (aB A) x (wit (aB A) x) g p 0 ((aN A).2.1 x) (aN A).1).bind (fun r => stC (aB A) x (wit (aB A) x) r ((aN A).1 + p) e) := by
          rw [evG_1, evG_eq (g' := g) p 0 _ _ (fun j _ q2 => by unfold updN; rw [if_neg (by omega)]), Nat.zero_add, show updN g p e p = e from if_pos rfl]
        refine ih (p + 1) σ1 (updN g p e) (by omega) H1 (fun k hk => ?_) (fun k q1 q2 => a3 k (by omega) q2) (fun L hL σ' t' b1 b2 => ?_) (fun hL σ' t' b1 b2 => ?_)
        · unfold updN
          by_cases hq : k = p
          · rw [if_pos hq, hq]; exact ⟨a2, by omega⟩
          · rw [if_neg hq]; exact ⟨a1 k (by omega), (h1 k (by omega)).2⟩
        · rw [ev, show (aN A).1 + (p + 1) = (aN A).1 + p + 1 by omega] at hL
          refine hok1 (e :: L) (fsC_t hL) σ' t' (fun k hk => ?_) (fun j hj => ?_)
          · rw [b1 k (by omega)]; unfold updN; rw [if_neg (by omega)]
          · cases j with
            | zero => rw [Nat.add_zero, b1 p (by omega)]; unfold updN; rw [if_pos rfl]; rfl
            | succ j => rw [show p + (j + 1) = p + 1 + j by omega]; exact b2 j (by omega)
        · rw [ev, show (aN A).1 + (p + 1) = (aN A).1 + p + 1 by omega] at hL
          refine hno1 (by rw [fsC_f hL]; rfl) σ' t' (fun k hk => ?_) (fun k q1 q2 => ?_)
          · rw [b1 k (by omega)]; unfold updN; rw [if_neg (by omega)]
          · by_cases hq : k = p
            · rw [hq, b1 p (by omega)]; unfold updN; rw [if_pos rfl, he]
            · exact b2 k (by omega) q2
      | succ c ihc =>
        intro e σ1 he H1 a1 a2 a3 hok1 hno1
        have ev : evG (aB A) x (wit (aB A) x) (updN g p e) (p + 1) 0 ((aN A).2.1 x) (aN A).1 = (evG (aB A) x (wit (aB A) x) g p 0 ((aN A).2.1 x) (aN A).1).bind (fun r => stC (aB A) x (wit (aB A) x) r ((aN A).1 + p) e) := by
          rw [evG_1, evG_eq (g' := g) p 0 _ _ (fun j _ q2 => by unfold updN; rw [if_neg (by omega)]), Nat.zero_add, show updN g p e p = e from if_pos rfl]
        refine ih (p + 1) σ1 (updN g p e) (by omega) H1 (fun k hk => ?_) (fun k q1 q2 => a3 k (by omega) q2) (fun L hL σ' t' b1 b2 => ?_) (fun hL σ' t' b1 b2 => ?_)
        · unfold updN
          by_cases hq : k = p
          · rw [if_pos hq, hq]; exact ⟨a2, by omega⟩
          · rw [if_neg hq]; exact ⟨a1 k (by omega), (h1 k (by omega)).2⟩
        · rw [ev, show (aN A).1 + (p + 1) = (aN A).1 + p + 1 by omega] at hL
          refine hok1 (e :: L) (fsC_t hL) σ' t' (fun k hk => ?_) (fun j hj => ?_)
          · rw [b1 k (by omega)]; unfold updN; rw [if_neg (by omega)]
          · cases j with
            | zero => rw [Nat.add_zero, b1 p (by omega)]; unfold updN; rw [if_pos rfl]; rfl
            | succ j => rw [show p + (j + 1) = p + 1 + j by omega]; exact b2 j (by omega)
        · rw [ev, show (aN A).1 + (p + 1) = (aN A).1 + p + 1 by omega] at hL
          rw [fsC_f hL] at hok1 hno1
          have bp : σ'.1 369 p = dgV e := by rw [b1 p (by omega)]; unfold updN; rw [if_pos rfl]
          refine Ev_aload rfl rfl rfl ?_
          refine Ev_iload rfl rfl ?_
          refine Ev_callV rfl rfl rfl rfl rfl (same_n 402) (m_goesOn _ (e := e) (p := p) hρ t'.2.1.1 hW hn (by omega) (by omega) (fun k q1 q2 => b2 k (by omega) q2) bp) ?_
          rintro v45 ρ45 σ45 ⟨rfl, e45, f', hf', c1, c2, c3⟩
          obtain rfl := e45.symm
          subst hf'
          refine Ev_istore rfl ?_
          refine Ev_goto rfl ?_
          exact ihc (e + 1) _ (by omega) (t'.r0 f') (fun k hk => by rw [sR_0, c3 k hk, b1 k (by omega)]; unfold updN; rw [if_neg (by omega)]) (by rw [sR_0]; exact c1) (fun k q1 q2 => by rw [sR_0]; exact c2 k q1 q2) hok1 hno1
    exact inner (ni (aB A)) 0 σ (by omega) H (fun k hk => (h1 k hk).1) (h2 p (Nat.le_refl _) (by omega)) (fun k q1 q2 => h2 k (by omega) q2) hok hno
theorem m_isFound (d : Nat) {x y n : Nat} {A : Ab} {σ0 σ : St} (hM : RM ρ σ0 A) (hA : WfA A) (hx : x < nb (aB A)) (hy : y < ni (aB A)) (hn : n ≤ 4) (H : MTh σ0 (aB A) (aN A).2.1 (wit (aB A)) (aN A).1 (aN A).2.2.1 σ) :
    T l X (d + 8) 236 [.ref 326, .int (nI x), .int (nI y), .int (nI n)] 402 402 ρ σ (fun v ρ' σ' => v = some (.int (bI (cR (aB A) x (wit (aB A) x) y n ((aN A).2.1 x) (aN A).1).isSome)) ∧ ρ' = ρ ∧ MTh σ0 (aB A) (aN A).2.1 (wit (aB A)) (aN A).1 (aN A).2.2.1 σ' ∧ ∀ L, cR (aB A) x (wit (aB A) x) y n ((aN A).2.1 x) (aN A).1 = some L → ∀ j, j < n → σ'.1 369 j = dgV (L.getD j 0)) := by
  have hρ := hM.1
  have hW := hA.1.1
  have zs : ∀ (m k : Nat) (σ1 : St), k + m = n → MTh σ0 (aB A) (aN A).2.1 (wit (aB A)) (aN A).1 (aN A).2.2.1 σ1 → (∀ j, j < k → σ1.1 369 j = dgV 0) →
      Ev l X (d + 8) 236 3 [.ref 326, .int (nI x), .int (nI y), .int (nI n), .int (nI k)] [] 402 402 402 ρ σ1 (fun v ρ' σ' => v = some (.int (bI (cR (aB A) x (wit (aB A) x) y n ((aN A).2.1 x) (aN A).1).isSome)) ∧ ρ' = ρ ∧ MTh σ0 (aB A) (aN A).2.1 (wit (aB A)) (aN A).1 (aN A).2.2.1 σ' ∧ ∀ L, cR (aB A) x (wit (aB A) x) y n ((aN A).2.1 x) (aN A).1 = some L → ∀ j, j < n → σ'.1 369 j = dgV (L.getD j 0)) := by
    intro m
    induction m with
    | zero =>
      intro k σ1 hk H1 hz
      have hk : k = n := by omega
      subst hk
      refine Ev_iload rfl rfl ?_
      refine Ev_iload rfl rfl ?_
      refine Ev_icmp_ge rfl (fun h6 => ?_) (fun h6 => absurd (nI_le (Nat.le_refl _) (by omega)) h6)
      refine Ev_const rfl ?_
      refine Ev_istore rfl ?_
      refine en_loop (d := d) hM hA hx hy hn k 0 σ1 (fun _ => 0) (by omega) H1 (fun k hk => absurd hk (Nat.not_lt_zero k)) (fun j _ q2 => hz j q2) (fun L hL σ' t' _ b2 => ?_) (fun hL σ' t' _ b2 => ?_)
      · have hL : cR (aB A) x (wit (aB A) x) y k ((aN A).2.1 x) (aN A).1 = some L := hL
        rw [hL]
        exact ⟨rfl, rfl, t', fun L' z j hj => by cases z; have := b2 j hj; rwa [Nat.zero_add] at this⟩
      · have hL : cR (aB A) x (wit (aB A) x) y k ((aN A).2.1 x) (aN A).1 = none := hL
        rw [hL]
        refine Ev_aload rfl rfl rfl ?_
        refine Ev_iload rfl rfl ?_
        refine Ev_callV rfl rfl rfl rfl rfl (same_n 402) (m_goesEnd _ hρ t'.2.1.1 hW hn (fun j hj => b2 j (Nat.zero_le _) hj)) ?_
        rintro v45 ρ45 σ45 ⟨rfl, e45, f', hf'⟩
        obtain rfl := e45.symm
        subst hf'
        refine Ev_istore rfl ?_
        refine Ev_goto rfl ?_
        refine Ev_iload rfl rfl ?_
        refine Ev_if_eq rfl (fun h28 => ?_) (fun h28 => absurd rfl h28)
        refine Ev_const rfl ?_
        exact Ev_ireturn rfl rfl rfl rfl ⟨rfl, rfl, t'.r0 f', fun L z => by cases z⟩
    | succ m ih =>
      intro k σ1 hk H1 hz
      refine Ev_iload rfl rfl ?_
      refine Ev_iload rfl rfl ?_
      refine Ev_icmp_ge rfl (fun h6 => absurd h6 (nI_ge (by omega) (by omega))) (fun h6 => ?_)
      refine Ev_aload rfl rfl rfl ?_
      refine Ev_getR rfl (by first | rfl | assumption) (hρ _ _ _ rfl) ?_
      refine Ev_iload rfl rfl ?_
      refine Ev_const rfl ?_
      refine Ev_iast rfl (by first | rfl | assumption) (vp_in_nI (n := k) (show k < 4 by omega) (by decide)) ?_
      rw [nI_clamp (show k < 2 ^ 31 by omega)]
      refine Ev_iincE rfl rfl (nI_1 k) ?_
      refine Ev_goto rfl ?_
      exact ih (k + 1) _ (by omega) (H1.r0 _) (fun j hj => by
      rw [sR_0]
      by_cases hq : j = k
      · subst hq; rw [pk_us]; rfl
      · rw [pk_un hq]; exact hz j (by omega))
  refine T_of rfl ?_
  refine Ev_const rfl ?_
  refine Ev_istore rfl ?_
  exact zs n 0 σ (by omega) H (fun j hj => absurd hj (Nat.not_lt_zero j))
def cAn (R : Option (Nat × List Nat)) (k : Nat) : Int32 := match R with
  | none => -1
  | some p => if k < p.1 then dgV (p.2.getD k 0) else -1
theorem cmF_4 {h n : Nat} (hh : h ≤ 999) (hn : n ≤ 1000) : cmF h (nI n) 0 4 = decide (n ≤ most60 h 4) := by
  unfold cmF most60
  rw [nI_toInt (by omega)]
  apply decide_eq_decide.mpr
  by_cases h4 : 999 - h < 4
  · rw [if_pos h4]; omega
  · rw [if_neg h4]; omega
theorem cs_end {d x y : Nat} {c : Int32} {A : Ab} {σ0 σ : St} {n : Int32} {R : Option (Nat × List Nat)} {r : Int32} (hM : RM ρ σ0 A) (H : MTh σ0 (aB A) (aN A).2.1 (wit (aB A)) (aN A).1 (aN A).2.2.1 σ) (hR : ∀ n L, R = some (n, L) → n ≤ 4 ∧ ∀ j, j < n → σ.1 369 j = dgV (L.getD j 0)) (hr : (c = -1 ∧ r = cNh R) ∨ ∃ k, k < 4 ∧ c = nI k ∧ r = cAn R k) :
    Ev l X (d + 9) 237 81 [.ref 326, .int (nI x), .int (nI y), .int c, .int (cNh R), .int n] [] 402 402 402 ρ σ (fun v ρ' σ' => v = some (.int r) ∧ ρ' = ρ ∧ MF scC scF σ0 σ') := by
  have hρ := hM.1
  rcases hr with ⟨rfl, rfl⟩ | ⟨k, hk, rfl, rfl⟩
  · refine Ev_aload rfl rfl rfl ?_
    refine Ev_callV rfl rfl rfl rfl rfl (same_n 402) (m_thBack _ hM H) ?_
    rintro v82 ρ82 σ82 ⟨rfl, e82, f82, -⟩
    obtain rfl := e82.symm
    refine Ev_iload rfl rfl ?_
    refine Ev_const rfl ?_
    refine Ev_icmp_ne rfl (fun h87 => absurd rfl h87) (fun h87 => ?_)
    refine Ev_iload rfl rfl ?_
    refine Ev_goto rfl ?_
    exact Ev_ireturn rfl rfl rfl rfl ⟨rfl, rfl, f82⟩
  · have hne := nI_m1 (n := k) (by omega)
    cases R with
    | none =>
      refine Ev_aload rfl rfl rfl ?_
      refine Ev_callV rfl rfl rfl rfl rfl (same_n 402) (m_thBack _ hM H) ?_
      rintro v82 ρ82 σ82 ⟨rfl, e82, f82, -⟩
      obtain rfl := e82.symm
      refine Ev_iload rfl rfl ?_
      refine Ev_const rfl ?_
      refine Ev_icmp_ne rfl (fun h87 => ?_) (fun h87 => absurd hne h87)
      refine Ev_iload rfl rfl ?_
      refine Ev_iload rfl rfl ?_
      refine Ev_icmp_ge rfl (fun h98 => ?_) (fun h98 => absurd (show (-1 : Int32) ≤ nI k by
      rw [Int32.le_iff_toInt_le, nI_toInt (by omega)]
      have e : (-1 : Int32).toInt = -1 := rfl
      omega) h98)
      refine Ev_const rfl ?_
      exact Ev_ireturn rfl rfl rfl rfl ⟨rfl, rfl, f82⟩
    | some p =>
      obtain ⟨n1, L⟩ := p
      obtain ⟨hn4, hrow⟩ := hR n1 L rfl
      refine Ev_aload rfl rfl rfl ?_
      refine Ev_callV rfl rfl rfl rfl rfl (same_n 402) (m_thBack _ hM H) ?_
      rintro v82 ρ82 σ82 ⟨rfl, e82, f82, g82⟩
      obtain rfl := e82.symm
      refine Ev_iload rfl rfl ?_
      refine Ev_const rfl ?_
      refine Ev_icmp_ne rfl (fun h87 => ?_) (fun h87 => absurd hne h87)
      refine Ev_iload rfl rfl ?_
      refine Ev_iload rfl rfl ?_
      refine Ev_icmp_ge rfl (fun h98 => ?_) (fun h98 => ?_)
      · refine Ev_const rfl ?_
        exact Ev_ireturn rfl rfl rfl rfl ⟨by
        have hle : n1 ≤ k := (nI_leI (by omega) (by omega)).mp h98
        show _ = some (Value.int (if k < n1 then dgV (L.getD k 0) else -1))
        rw [if_neg (by omega)], rfl, f82⟩
      · refine Ev_aload rfl rfl rfl ?_
        refine Ev_getR rfl (by first | rfl | assumption) (hρ _ _ _ rfl) ?_
        refine Ev_iload rfl rfl ?_
        refine Ev_iald rfl (by first | rfl | assumption) (vp_in_nI (n := k) hk (by decide)) ?_
        refine Ev_norm (by rw [nI_clamp (by omega), g82 _ (by decide) (by decide)] : _ = σ.1 369 k) ?_
        refine Ev_goto rfl ?_
        exact Ev_ireturn rfl rfl rfl rfl ⟨by
        have hle : k < n1 := Nat.lt_of_not_le (fun z => h98 (nI_le z (by omega)))
        show _ = some (Value.int (if k < n1 then dgV (L.getD k 0) else -1))
        rw [if_pos hle, hrow k hle], rfl, f82⟩
theorem mco_loop {d x y : Nat} {c : Int32} {A : Ab} {σ0 : St} {R : Option (Nat × List Nat)} {r : Int32} (hM : RM ρ σ0 A) (hA : WfA A) (hx : x < nb (aB A)) (hy : y < ni (aB A)) (hr : (c = -1 ∧ r = cNh R) ∨ ∃ k, k < 4 ∧ c = nI k ∧ r = cAn R k) :
    ∀ (m n : Nat) (σ : St), n + m = most60 (aN A).1 4 + 1 → MTh σ0 (aB A) (aN A).2.1 (wit (aB A)) (aN A).1 (aN A).2.2.1 σ → crN (aB A) x (wit (aB A) x) y ((aN A).2.1 x) (aN A).1 m n = R →
    Ev l X (d + 9) 237 43 [.ref 326, .int (nI x), .int (nI y), .int c, .int (-1), .int (nI n)] [] 402 402 402 ρ σ (fun v ρ' σ' => v = some (.int r) ∧ ρ' = ρ ∧ MF scC scF σ0 σ') := by
  have hρ := hM.1
  have nh := hA.2.1.1
  have hm4 : most60 (aN A).1 4 ≤ 4 := by unfold most60; split <;> omega
  intro m
  induction m with
  | zero =>
    intro n σ hn H he
    have he : none = R := he
    subst he
    refine Ev_aload rfl rfl rfl ?_
    refine Ev_iload rfl rfl ?_
    refine Ev_const rfl ?_
    refine Ev_const rfl ?_
    refine Ev_callV rfl rfl rfl rfl rfl (same_n 402) (m_isAhead _ _ (lo := 0) (hi := 4) hρ H.2.1.2.2.2.2 (by omega) (by decide) (by decide)) ?_
    rintro v48 ρ48 σ48 ⟨rfl, e48, g48⟩
    obtain rfl := e48.symm
    obtain rfl := g48.symm
    refine Ev_if_eq rfl (fun h51 => ?_) (fun h51 => absurd (by rw [cmF_4 nh (by omega), decide_eq_false (by omega)]; rfl) h51)
    exact cs_end (R := none) hM H (fun n L z => by cases z) hr
  | succ m ih =>
    intro n σ hn H he
    have he : (match cR (aB A) x (wit (aB A) x) y n ((aN A).2.1 x) (aN A).1 with | some L => some (n, L) | none => crN (aB A) x (wit (aB A) x) y ((aN A).2.1 x) (aN A).1 m (n + 1)) = R := he
    refine Ev_aload rfl rfl rfl ?_
    refine Ev_iload rfl rfl ?_
    refine Ev_const rfl ?_
    refine Ev_const rfl ?_
    refine Ev_callV rfl rfl rfl rfl rfl (same_n 402) (m_isAhead _ _ (lo := 0) (hi := 4) hρ H.2.1.2.2.2.2 (by omega) (by decide) (by decide)) ?_
    rintro v48 ρ48 σ48 ⟨rfl, e48, g48⟩
    obtain rfl := e48.symm
    obtain rfl := g48.symm
    refine Ev_if_eq rfl (fun h51 => absurd h51 (by rw [cmF_4 nh (by omega), decide_eq_true (by omega)]; decide)) (fun h51 => ?_)
    refine Ev_iload rfl rfl ?_
    refine Ev_const rfl ?_
    refine Ev_icmp_ne rfl (fun h57 => absurd rfl h57) (fun h57 => ?_)
    refine Ev_aload rfl rfl rfl ?_
    refine Ev_iload rfl rfl ?_
    refine Ev_iload rfl rfl ?_
    refine Ev_iload rfl rfl ?_
    refine Ev_callV rfl rfl rfl rfl rfl (same_n 402) (m_isFound _ hM hA hx hy (by omega) H) ?_
    rintro v65 ρ65 σ65 ⟨rfl, e65, t65, p65⟩
    obtain rfl := e65.symm
    refine Ev_if_eq rfl (fun h68 => ?_) (fun h68 => ?_)
    · have hz : cR (aB A) x (wit (aB A) x) y n ((aN A).2.1 x) (aN A).1 = none := by
        cases hq : cR (aB A) x (wit (aB A) x) y n ((aN A).2.1 x) (aN A).1 with
        | none => rfl
        | some L => rw [hq] at h68; exact absurd h68 (show ¬ bI true = 0 by decide)
      rw [hz] at he
      refine Ev_iincE rfl rfl (nI_1 n) ?_
      refine Ev_goto rfl ?_
      exact ih (n + 1) σ65 (by omega) t65 he
    · refine Ev_iload rfl rfl ?_
      refine Ev_istore rfl ?_
      cases hq : cR (aB A) x (wit (aB A) x) y n ((aN A).2.1 x) (aN A).1 with
      | none => rw [hq] at h68; exact absurd rfl h68
      | some L =>
        rw [hq] at he
        have he : some (n, L) = R := he
        subst he
        have hend := fun z => cs_end (l := l) (X := X) (d := d) (x := x) (y := y) (n := z) (R := some (n, L)) hM t65 (fun n' L' z => by cases z; exact ⟨by omega, p65 L hq⟩) hr
        refine Ev_iincE rfl rfl (nI_1 n) ?_
        refine Ev_goto rfl ?_
        refine Ev_aload rfl rfl rfl ?_
        refine Ev_iload rfl rfl ?_
        refine Ev_const rfl ?_
        refine Ev_const rfl ?_
        refine Ev_callV rfl rfl rfl rfl rfl (same_n 402) (m_isAhead _ _ (lo := 0) (hi := 4) hρ t65.2.1.2.2.2.2 (by omega) (by decide) (by decide)) ?_
        rintro v48 ρ48 σ48 ⟨rfl, e48, g48⟩
        obtain rfl := e48.symm
        obtain rfl := g48.symm
        refine Ev_if_eq rfl (fun h51 => ?_) (fun h51 => ?_)
        · exact hend _
        · refine Ev_iload rfl rfl ?_
          refine Ev_const rfl ?_
          refine Ev_icmp_ne rfl (fun h57 => ?_) (fun h57 => absurd (nI_m1 (by omega)) h57)
          exact hend _
theorem isIn_m1 (x : Int32) : decide ((-1 : Int64) ≤ x.toInt64 ∧ x.toInt64 ≤ 3) = decide (-1 ≤ x.toInt ∧ x.toInt ≤ 3) := by
  apply decide_eq_decide.mpr
  rw [Int64.le_iff_toInt_le, Int64.le_iff_toInt_le, l_of]
  have e1 : (-1 : Int64).toInt = -1 := rfl
  have e3 : (3 : Int64).toInt = 3 := rfl
  omega
theorem op_course (a b c : Int32) : OpI l X InvA 123 237 [.int a, .int b, .int c] := by
  refine op_of (fun A q ρ σ hA hC hρ => ?_)
  have hW := hA.1.1
  have hWt := hA.1.2.1
  have hWf := hA.1.2.2.1
  have n8 := hW.1
  have n6 := hW.2.1
  have nh := hA.2.1.1
  have hSw := hA.2.1.2.1
  have hCS : CStr σ (aN A).2.1 := fun b hb i hi => rf_str hC hb hi
  have hhr := hC.2.2.2.1.1
  have e4 : (4 : Int32).toInt = 4 := rfl
  have em : (-1 : Int32).toInt = -1 := rfl
  by_cases h : ((hasF (nb (aB A)) a && hasF (ni (aB A)) b) && decide (-1 ≤ c.toInt ∧ c.toInt ≤ 3)) = true
  · obtain ⟨hab, hcm⟩ := Bool.and_eq_true_iff.mp h
    obtain ⟨ha, hb⟩ := Bool.and_eq_true_iff.mp hab
    obtain ⟨x, hx, rfl⟩ := hasF_of ha
    obtain ⟨y, hy, rfl⟩ := hasF_of hb
    have hc2 := of_decide_eq_true hcm
    generalize hRe : crN (aB A) x (wit (aB A) x) y ((aN A).2.1 x) (aN A).1 (most60 (aN A).1 4 + 1) 0 = R
    obtain ⟨r, hr⟩ : ∃ r : Int32, (c = -1 ∧ r = cNh R) ∨ ∃ k, k < 4 ∧ c = nI k ∧ r = cAn R k := by
      by_cases h1 : c = -1
      · exact ⟨_, Or.inl ⟨h1, rfl⟩⟩
      · have hne : c.toInt ≠ -1 := fun z => h1 (Int32.toInt_inj.mp (z.trans em.symm))
        obtain ⟨k, hk, hk2⟩ := in_of (x := c) (n := 4) ⟨by omega, by omega⟩
        exact ⟨_, Or.inr ⟨k, hk, hk2, rfl⟩⟩
    refine ⟨r, A, hA, ?_, fun ρ σ hM => ?_⟩
    · have fc : ∀ z, T l X (z + 10) 16 [.ref 267, .int (nI x), .int (nI y)] 402 402 ρ σ (fun v ρ' σ' => v = some (.int (cNh R)) ∧ ρ' = ρ ∧ CF cX σ σ' ∧ ∀ n L, R = some (n, L) → n ≤ 4 ∧ ∀ j, j < n → σ'.1 286 j = dgV (L.getD j 0)) := fun z => by
        rw [← hRe]
        exact t_findCourse z hC.2.1 hW hWt hWf hCS hSw hhr nh hx hy
      have lo : ¬ c < -1 := fun z => by rw [Int32.lt_iff_toInt_lt] at z; omega
      have hi : c < 4 := by rw [Int32.lt_iff_toInt_lt]; omega
      refine T_of rfl ?_
      rcases hr with ⟨rfl, rfl⟩ | ⟨k, hk, rfl, rfl⟩
      · refine Ev_aload rfl rfl rfl ?_
        refine Ev_iload rfl rfl ?_
        refine Ev_iload rfl rfl ?_
        refine Ev_callV rfl rfl rfl rfl rfl (same_n 402) (t_hasBoth _ _ _ hC.1.1 hC.2.1 hW) ?_
        rintro v3 ρ3 σ3 ⟨rfl, e3, g3⟩
        obtain rfl := e3.symm
        obtain rfl := g3.symm
        refine Ev_if_eq rfl (fun h6 => absurd h6 (by rw [hab]; decide)) (fun h6 => ?_)
        refine Ev_iload rfl rfl ?_
        refine Ev_const rfl ?_
        refine Ev_icmp_lt rfl (fun h11 => absurd h11 lo) (fun h11 => ?_)
        refine Ev_iload rfl rfl ?_
        refine Ev_const rfl ?_
        refine Ev_icmp_lt rfl (fun h16 => ?_) (fun h16 => absurd hi h16)
        refine Ev_aload rfl rfl rfl ?_
        refine Ev_getR rfl (by first | rfl | assumption) (hρ _ _ _ rfl) ?_
        refine Ev_iload rfl rfl ?_
        refine Ev_iload rfl rfl ?_
        refine Ev_callV rfl rfl rfl rfl rfl (same_n 402) (fc 89) ?_
        rintro v27 ρ27 σ27 ⟨rfl, e27, s27, g27⟩
        obtain rfl := e27.symm
        refine Ev_istore rfl ?_
        refine Ev_iload rfl rfl ?_
        refine Ev_const rfl ?_
        refine Ev_icmp_ne rfl (fun h34 => absurd rfl h34) (fun h34 => ?_)
        refine Ev_iload rfl rfl ?_
        exact Ev_ireturn rfl rfl rfl rfl ⟨rfl, hC.pure s27⟩
      · have hne := nI_m1 (n := k) (by omega)
        cases R with
        | none =>
          refine Ev_aload rfl rfl rfl ?_
          refine Ev_iload rfl rfl ?_
          refine Ev_iload rfl rfl ?_
          refine Ev_callV rfl rfl rfl rfl rfl (same_n 402) (t_hasBoth _ _ _ hC.1.1 hC.2.1 hW) ?_
          rintro v3 ρ3 σ3 ⟨rfl, e3, g3⟩
          obtain rfl := e3.symm
          obtain rfl := g3.symm
          refine Ev_if_eq rfl (fun h6 => absurd h6 (by rw [hab]; decide)) (fun h6 => ?_)
          refine Ev_iload rfl rfl ?_
          refine Ev_const rfl ?_
          refine Ev_icmp_lt rfl (fun h11 => absurd h11 lo) (fun h11 => ?_)
          refine Ev_iload rfl rfl ?_
          refine Ev_const rfl ?_
          refine Ev_icmp_lt rfl (fun h16 => ?_) (fun h16 => absurd hi h16)
          refine Ev_aload rfl rfl rfl ?_
          refine Ev_getR rfl (by first | rfl | assumption) (hρ _ _ _ rfl) ?_
          refine Ev_iload rfl rfl ?_
          refine Ev_iload rfl rfl ?_
          refine Ev_callV rfl rfl rfl rfl rfl (same_n 402) (fc 89) ?_
          rintro v27 ρ27 σ27 ⟨rfl, e27, s27, g27⟩
          obtain rfl := e27.symm
          refine Ev_istore rfl ?_
          refine Ev_iload rfl rfl ?_
          refine Ev_const rfl ?_
          refine Ev_icmp_ne rfl (fun h34 => ?_) (fun h34 => absurd hne h34)
          refine Ev_iload rfl rfl ?_
          refine Ev_iload rfl rfl ?_
          refine Ev_icmp_ge rfl (fun h43 => ?_) (fun h43 => absurd (show (-1 : Int32) ≤ nI k by
          rw [Int32.le_iff_toInt_le, nI_toInt (by omega)]
          omega) h43)
          refine Ev_const rfl ?_
          exact Ev_ireturn rfl rfl rfl rfl ⟨rfl, hC.pure s27⟩
        | some p =>
          obtain ⟨n1, L⟩ := p
          refine Ev_aload rfl rfl rfl ?_
          refine Ev_iload rfl rfl ?_
          refine Ev_iload rfl rfl ?_
          refine Ev_callV rfl rfl rfl rfl rfl (same_n 402) (t_hasBoth _ _ _ hC.1.1 hC.2.1 hW) ?_
          rintro v3 ρ3 σ3 ⟨rfl, e3, g3⟩
          obtain rfl := e3.symm
          obtain rfl := g3.symm
          refine Ev_if_eq rfl (fun h6 => absurd h6 (by rw [hab]; decide)) (fun h6 => ?_)
          refine Ev_iload rfl rfl ?_
          refine Ev_const rfl ?_
          refine Ev_icmp_lt rfl (fun h11 => absurd h11 lo) (fun h11 => ?_)
          refine Ev_iload rfl rfl ?_
          refine Ev_const rfl ?_
          refine Ev_icmp_lt rfl (fun h16 => ?_) (fun h16 => absurd hi h16)
          refine Ev_aload rfl rfl rfl ?_
          refine Ev_getR rfl (by first | rfl | assumption) (hρ _ _ _ rfl) ?_
          refine Ev_iload rfl rfl ?_
          refine Ev_iload rfl rfl ?_
          refine Ev_callV rfl rfl rfl rfl rfl (same_n 402) (fc 89) ?_
          rintro v27 ρ27 σ27 ⟨rfl, e27, s27, g27⟩
          obtain rfl := e27.symm
          obtain ⟨hn4, hrow⟩ := g27 n1 L rfl
          refine Ev_istore rfl ?_
          refine Ev_iload rfl rfl ?_
          refine Ev_const rfl ?_
          refine Ev_icmp_ne rfl (fun h34 => ?_) (fun h34 => absurd hne h34)
          refine Ev_iload rfl rfl ?_
          refine Ev_iload rfl rfl ?_
          refine Ev_icmp_ge rfl (fun h43 => ?_) (fun h43 => ?_)
          · refine Ev_const rfl ?_
            exact Ev_ireturn rfl rfl rfl rfl ⟨by
            have hle : n1 ≤ k := (nI_leI (by omega) (by omega)).mp h43
            show _ = some (Value.int (if k < n1 then dgV (L.getD k 0) else -1))
            rw [if_neg (by omega)], hC.pure s27⟩
          · refine Ev_aload rfl rfl rfl ?_
            refine Ev_getR rfl (by first | rfl | assumption) (hρ _ _ _ rfl) ?_
            refine Ev_getR rfl (by first | rfl | assumption) (hρ _ _ _ rfl) ?_
            refine Ev_iload rfl rfl ?_
            refine Ev_iald rfl (by first | rfl | assumption) (vp_in_nI (n := k) hk (by decide)) ?_
            refine Ev_norm (by rw [nI_clamp (by omega)] : _ = σ27.1 286 k) ?_
            refine Ev_goto rfl ?_
            exact Ev_ireturn rfl rfl rfl rfl ⟨by
            have hle : k < n1 := Nat.lt_of_not_le (fun z => h43 (nI_le z (by omega)))
            show _ = some (Value.int (if k < n1 then dgV (L.getD k 0) else -1))
            rw [if_pos hle, hrow k hle], hC.pure s27⟩
    · have hρ := hM.1
      refine T_of rfl ?_
      refine Ev_aload rfl rfl rfl ?_
      refine Ev_iload rfl rfl ?_
      refine Ev_callV rfl rfl rfl rfl rfl (same_n 402) (m_isBather _ hρ hM.2.1.1 hW _) ?_
      rintro v2 ρ2 σ2 ⟨rfl, e2, g2⟩
      obtain rfl := e2.symm
      obtain rfl := g2.symm
      refine Ev_if_eq rfl (fun h5 => absurd h5 (by rw [← hasF_eq, ha]; decide)) (fun h5 => ?_)
      refine Ev_aload rfl rfl rfl ?_
      refine Ev_iload rfl rfl ?_
      refine Ev_i2l rfl ?_
      refine Ev_callV rfl rfl rfl rfl rfl (same_n 402) (m_isIdea _ hρ hM.2.1.1 hW _) ?_
      rintro v11 ρ11 σ11 ⟨rfl, e11, g11⟩
      obtain rfl := e11.symm
      obtain rfl := g11.symm
      refine Ev_if_eq rfl (fun h14 => absurd h14 (by rw [l_of, ← hasF_eq, hb]; decide)) (fun h14 => ?_)
      refine Ev_iload rfl rfl ?_
      refine Ev_i2l rfl ?_
      refine Ev_constL rfl ?_
      refine Ev_constL rfl ?_
      refine Ev_callS rfl rfl rfl rfl (same_n 402) (m_isIn _ _ _ _) ?_
      rintro v25 ρ25 σ25 ⟨rfl, e25, g25⟩
      obtain rfl := e25.symm
      obtain rfl := g25.symm
      refine Ev_if_ne rfl (fun h28 => ?_) (fun h28 => absurd (by rw [isIn_m1, hcm]; decide) h28)
      refine Ev_const rfl ?_
      refine Ev_istore rfl ?_
      refine Ev_aload rfl rfl rfl ?_
      refine Ev_callV rfl rfl rfl rfl rfl (same_n 402) (m_thinks _ hM hW) ?_
      rintro v37 ρ37 σ37 ⟨rfl, e37, t37⟩
      obtain rfl := e37.symm
      refine Ev_const rfl ?_
      refine Ev_istore rfl ?_
      refine (mco_loop (d := 91) hM hA hx hy hr (most60 (aN A).1 4 + 1) 0 σ37 (by omega) t37 hRe).mono (fun v ρ' σ' hq => ?_)
      obtain ⟨rfl, rfl, f⟩ := hq
      exact ⟨rfl, rfl, hM.pure f⟩
  · refine ⟨-1, A, hA, ?_, fun ρ σ hM => ?_⟩
    · refine T_of rfl ?_
      refine Ev_aload rfl rfl rfl ?_
      refine Ev_iload rfl rfl ?_
      refine Ev_iload rfl rfl ?_
      refine Ev_callV rfl rfl rfl rfl rfl (same_n 402) (t_hasBoth _ _ _ hC.1.1 hC.2.1 hW) ?_
      rintro v3 ρ3 σ3 ⟨rfl, e3, g3⟩
      obtain rfl := e3.symm
      obtain rfl := g3.symm
      refine Ev_if_eq rfl (fun h6 => ?_) (fun h6 => ?_)
      · refine Ev_const rfl ?_
        exact Ev_ireturn rfl rfl rfl rfl ⟨rfl, hC.same⟩
      · refine Ev_iload rfl rfl ?_
        refine Ev_const rfl ?_
        refine Ev_icmp_lt rfl (fun h11 => ?_) (fun h11 => ?_)
        · refine Ev_const rfl ?_
          exact Ev_ireturn rfl rfl rfl rfl ⟨rfl, hC.same⟩
        · refine Ev_iload rfl rfl ?_
          refine Ev_const rfl ?_
          refine Ev_icmp_lt rfl (fun h16 => absurd (Bool.and_eq_true_iff.mpr ⟨rt_of h6, decide_eq_true (by
          rw [Int32.lt_iff_toInt_lt] at h11 h16
          omega)⟩) h) (fun h16 => ?_)
          refine Ev_const rfl ?_
          exact Ev_ireturn rfl rfl rfl rfl ⟨rfl, hC.same⟩
    · have hρ := hM.1
      refine T_of rfl ?_
      refine Ev_aload rfl rfl rfl ?_
      refine Ev_iload rfl rfl ?_
      refine Ev_callV rfl rfl rfl rfl rfl (same_n 402) (m_isBather _ hρ hM.2.1.1 hW _) ?_
      rintro v2 ρ2 σ2 ⟨rfl, e2, g2⟩
      obtain rfl := e2.symm
      obtain rfl := g2.symm
      refine Ev_if_eq rfl (fun h5 => ?_) (fun h5 => ?_)
      · refine Ev_const rfl ?_
        exact Ev_ireturn rfl rfl rfl rfl ⟨rfl, rfl, hM.same⟩
      · refine Ev_aload rfl rfl rfl ?_
        refine Ev_iload rfl rfl ?_
        refine Ev_i2l rfl ?_
        refine Ev_callV rfl rfl rfl rfl rfl (same_n 402) (m_isIdea _ hρ hM.2.1.1 hW _) ?_
        rintro v11 ρ11 σ11 ⟨rfl, e11, g11⟩
        obtain rfl := e11.symm
        obtain rfl := g11.symm
        refine Ev_if_eq rfl (fun h14 => ?_) (fun h14 => ?_)
        · refine Ev_const rfl ?_
          exact Ev_ireturn rfl rfl rfl rfl ⟨rfl, rfl, hM.same⟩
        · refine Ev_iload rfl rfl ?_
          refine Ev_i2l rfl ?_
          refine Ev_constL rfl ?_
          refine Ev_constL rfl ?_
          refine Ev_callS rfl rfl rfl rfl (same_n 402) (m_isIn _ _ _ _) ?_
          rintro v25 ρ25 σ25 ⟨rfl, e25, g25⟩
          obtain rfl := e25.symm
          obtain rfl := g25.symm
          refine Ev_if_ne rfl (fun h28 => absurd (Bool.and_eq_true_iff.mpr ⟨Bool.and_eq_true_iff.mpr ⟨rt_of h5, by have := rt_of h14; rwa [l_of] at this⟩, by have := rt_of h28; rwa [isIn_m1] at this⟩) h) (fun h28 => ?_)
          refine Ev_const rfl ?_
          exact Ev_ireturn rfl rfl rfl rfl ⟨rfl, rfl, hM.same⟩
end S88f
