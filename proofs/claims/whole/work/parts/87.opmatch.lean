/-! match: the call. -/
theorem mP_none {g : Nat → Nat → Nat} {n m b s : Nat} (hb : b < m) (h : mB g n m (b + 1) s = mB g n m b s) : mP g n m b s = none := by unfold mP; rw [if_neg (by omega)]
theorem mP_some {g : Nat → Nat → Nat} {n m b s : Nat} (hb : b < m) (h : ¬ mB g n m (b + 1) s = mB g n m b s) : ∃ i, mF (g b) (mB g n m (b + 1)) s (mB g n m b s) n 0 = some i ∧ mP g n m b s = some i := by
  have e := mB_s hb (g := g) (n := n) s
  have up := mG_up (g b) (mB g n m (b + 1)) s n
  rcases mG_at (g b) (mB g n m (b + 1)) s n with h1 | ⟨i, h1, h2⟩
  · exact absurd (h1.symm.trans e.symm) h
  · rw [← e] at h2
    obtain ⟨j, hj⟩ := mF_ex h2 n 0 (Nat.zero_le _) (by omega)
    refine ⟨j, hj, ?_⟩
    unfold mP
    rw [if_pos (by omega)]
    exact hj
section S87
variable {l : Launch} {X : Cx} {ρ : Rf}
theorem mm_loop {d x : Nat} {A : Ab} {σ : St} {g : Nat → Nat → Nat} {Q : Po} (hM : RM ρ σ A) (hA : WfA A) (hx : x < nb (aB A)) (hg99 : ∀ b i, g b i ≤ 99) (hg : MWo σ (aB A) (nb (aB A)) g) (ht : ∀ b, b ≤ nb (aB A) → MTbl σ b (mB g (ni (aB A)) (nb (aB A)) b))
    (hQ : Q (some (.int (plV (mP g (ni (aB A)) (nb (aB A)) x (mtS g (ni (aB A)) (nb (aB A)) x))))) ρ σ) :
    ∀ (m b : Nat) (fnd : Int32), b + m = x + 1 → (b = x + 1 → fnd = plV (mP g (ni (aB A)) (nb (aB A)) x (mtS g (ni (aB A)) (nb (aB A)) x))) →
    Ev l X (d + 7) 243 38 [.ref 326, .int (nI x), .int (nI (mtS g (ni (aB A)) (nb (aB A)) b)), .int fnd, .int (nI b)] [] 402 402 402 ρ σ Q := by
  have hW := hA.1.1
  have n6 := hW.2.1
  have n8 := hW.1
  have hρ := hM.1
  have hle : ∀ b s, mB g (ni (aB A)) (nb (aB A)) b s ≤ 594 := fun b s => mB_le hg99 n6 s
  intro m
  induction m with
  | zero =>
    intro b fnd hb hf
    have hb : b = x + 1 := by omega
    subst hb
    have hf := hf rfl
    subst hf
    refine Ev_iload rfl rfl ?_
    refine Ev_iload rfl rfl ?_
    refine Ev_icmp_gt rfl (fun h41 => ?_) (fun h41 => absurd (nI_lt (Nat.lt_succ_self x) (by omega)) h41)
    refine Ev_iload rfl rfl ?_
    exact Ev_ireturn rfl rfl rfl rfl hQ
  | succ m ih =>
    intro b fnd hb hf
    have hs := mS_lt (g := g) (m := nb (aB A)) n8 b
    have hms : mtS g (ni (aB A)) (nb (aB A)) (b + 1) = tkS (mtS g (ni (aB A)) (nb (aB A)) b) (mP g (ni (aB A)) (nb (aB A)) b (mtS g (ni (aB A)) (nb (aB A)) b)) := rfl
    have hlast : b + 1 = x + 1 → mP g (ni (aB A)) (nb (aB A)) x (mtS g (ni (aB A)) (nb (aB A)) x) = mP g (ni (aB A)) (nb (aB A)) b (mtS g (ni (aB A)) (nb (aB A)) b) := fun z => by rw [show x = b by omega]
    generalize hse : mtS g (ni (aB A)) (nb (aB A)) b = s at hs hms hlast
    have hb6 : b < nb (aB A) := by omega
    have a1 := hle b s
    have a2 := hle (b + 1) s
    have hT := ht b (by omega) s hs
    have hT1 := ht (b + 1) (by omega)
    have sea : ∀ (i m2 k : Nat), k + m2 = ni (aB A) → mP g (ni (aB A)) (nb (aB A)) b s = some i → mF (g b) (mB g (ni (aB A)) (nb (aB A)) (b + 1)) s (mB g (ni (aB A)) (nb (aB A)) b s) m2 k = some i →
        Ev l X (d + 7) 243 46 [.ref 326, .int (nI x), .int (nI s), .int (nI k), .int (nI b)] [] 402 402 402 ρ σ Q := by
      intro i m2
      induction m2 with
      | zero => intro k hk hp hq; cases hq
      | succ m2 ih2 =>
        intro k hk hp hq
        have hq' : (if mtW (g b) (mB g (ni (aB A)) (nb (aB A)) (b + 1)) s k = some (mB g (ni (aB A)) (nb (aB A)) b s) then some k else mF (g b) (mB g (ni (aB A)) (nb (aB A)) (b + 1)) s (mB g (ni (aB A)) (nb (aB A)) b s) m2 (k + 1)) = some i := hq
        refine Ev_aload rfl rfl rfl ?_
        refine Ev_iload rfl rfl ?_
        refine Ev_iload rfl rfl ?_
        refine Ev_iload rfl rfl ?_
        refine Ev_callV rfl rfl rfl rfl rfl (same_n 402) (m_matchBy _ hρ (by omega) (by omega) hs (hg b hb6 k (by omega)) (hg99 b) hT1 (hle (b + 1))) ?_
        rintro v51 ρ51 σ51 ⟨rfl, e51, g51⟩
        obtain rfl := e51.symm
        obtain rfl := g51.symm
        refine Ev_aload rfl rfl rfl ?_
        refine Ev_getR rfl (by first | rfl | assumption) (hρ _ _ _ rfl) ?_
        refine Ev_const rfl ?_
        refine Ev_iload rfl rfl ?_
        refine Ev_imul rfl ?_
        refine Ev_norm (pk_mul 256 b) ?_
        refine Ev_iload rfl rfl ?_
        refine Ev_iadd rfl ?_
        refine Ev_norm (nI_add (256 * b) s) ?_
        refine Ev_iald rfl (by first | rfl | assumption) (vp_in_nI (n := 256 * b + s) (show 256 * b + s < 1792 by omega) (by decide)) ?_
        refine Ev_norm (by rw [nI_clamp (by omega)]; exact hT : _ = nI (mB g (ni (aB A)) (nb (aB A)) b s)) ?_
        refine Ev_icmp_eq rfl (fun h67 => ?_) (fun h67 => ?_)
        · have hz : mtW (g b) (mB g (ni (aB A)) (nb (aB A)) (b + 1)) s k = some (mB g (ni (aB A)) (nb (aB A)) b s) := (plV_eq (by omega) (fun v hv => mW_lt (hg99 b) (hle (b + 1)) hv)).mp h67
          rw [if_pos hz] at hq'
          have hki : k = i := Option.some.inj hq'
          subst hki
          rw [hp] at hms hlast
          refine Ev_iload rfl rfl ?_
          refine Ev_const rfl ?_
          refine Ev_icmp_eq rfl (fun h78 => absurd h78 (nI_m1 (by omega))) (fun h78 => ?_)
          refine Ev_iload rfl rfl ?_
          refine Ev_const rfl ?_
          refine Ev_iload rfl rfl ?_
          refine Ev_ishl rfl ?_
          refine Ev_norm (shl_1 k (by omega)) ?_
          refine Ev_ior rfl ?_
          refine Ev_norm (nI_or s (2 ^ k)) ?_
          refine Ev_istore rfl ?_
          refine Ev_iincE rfl rfl (nI_1 b) ?_
          refine Ev_goto rfl ?_
          have := ih (b + 1) (nI k) (by omega) (fun z => by rw [hlast z]; rfl)
          rw [hms] at this
          exact this
        · refine Ev_iincE rfl rfl (nI_1 k) ?_
          refine Ev_goto rfl ?_
          have hz : ¬ mtW (g b) (mB g (ni (aB A)) (nb (aB A)) (b + 1)) s k = some (mB g (ni (aB A)) (nb (aB A)) b s) := fun z => h67 ((plV_eq (by omega) (fun v hv => mW_lt (hg99 b) (hle (b + 1)) hv)).mpr z)
          rw [if_neg hz] at hq'
          exact ih2 (k + 1) (by omega) hp hq'
    refine Ev_iload rfl rfl ?_
    refine Ev_iload rfl rfl ?_
    refine Ev_icmp_gt rfl (fun h41 => absurd h41 (nI_nlt (by omega) (by omega))) (fun h41 => ?_)
    refine Ev_const rfl ?_
    refine Ev_istore rfl ?_
    refine Ev_aload rfl rfl rfl ?_
    refine Ev_iload rfl rfl ?_
    refine Ev_iload rfl rfl ?_
    refine Ev_iload rfl rfl ?_
    refine Ev_callV rfl rfl rfl rfl rfl (same_n 402) (m_matchBy0 _ hρ (by omega) hs hT1) ?_
    rintro v51 ρ51 σ51 ⟨rfl, e51, g51⟩
    obtain rfl := e51.symm
    obtain rfl := g51.symm
    refine Ev_aload rfl rfl rfl ?_
    refine Ev_getR rfl (by first | rfl | assumption) (hρ _ _ _ rfl) ?_
    refine Ev_const rfl ?_
    refine Ev_iload rfl rfl ?_
    refine Ev_imul rfl ?_
    refine Ev_norm (pk_mul 256 b) ?_
    refine Ev_iload rfl rfl ?_
    refine Ev_iadd rfl ?_
    refine Ev_norm (nI_add (256 * b) s) ?_
    refine Ev_iald rfl (by first | rfl | assumption) (vp_in_nI (n := 256 * b + s) (show 256 * b + s < 1792 by omega) (by decide)) ?_
    refine Ev_norm (by rw [nI_clamp (by omega)]; exact hT : _ = nI (mB g (ni (aB A)) (nb (aB A)) b s)) ?_
    refine Ev_icmp_eq rfl (fun h67 => ?_) (fun h67 => ?_)
    · have hp := mP_none hb6 ((nI_eq (by omega) (by omega)).mp h67)
      rw [hp] at hms hlast
      refine Ev_iload rfl rfl ?_
      refine Ev_const rfl ?_
      refine Ev_icmp_eq rfl (fun h78 => ?_) (fun h78 => absurd rfl h78)
      refine Ev_iincE rfl rfl (nI_1 b) ?_
      refine Ev_goto rfl ?_
      have := ih (b + 1) (-1) (by omega) (fun z => by rw [hlast z]; rfl)
      rw [hms] at this
      exact this
    · refine Ev_iincE rfl rfl (show (-1 : Int32) + 1 = nI 0 from rfl) ?_
      refine Ev_goto rfl ?_
      obtain ⟨i, h1, h2⟩ := mP_some hb6 (fun z => h67 (by rw [z]))
      exact sea i (ni (aB A)) 0 (by omega) h2 h1
theorem op_match (a : Int32) : OpI l X InvA 125 243 [.int a] := by
  refine op_of (fun A q ρ σ hA hC hρ => ?_)
  have hW := hA.1.1
  have hWt := hA.1.2.1
  have hWf := hA.1.2.2.1
  have n8 := hW.1
  have n6 := hW.2.1
  have nh := hA.2.1.1
  have hSw := hA.2.1.2.1
  have hCS : CStr σ (aN A).2.1 := fun b hb i hi => rf_str hC hb hi
  have hhr := hC.2.2.2.1.1
  by_cases h1 : a = -1
  · subst h1
    refine ⟨nI (mB (gnM (aB A) (aN A).2.1 (wit (aB A)) (aN A).1 (tdM (aB A) (aN A).1)) (ni (aB A)) (nb (aB A)) 0 0), A, hA, ?_, fun ρ σ hM => ?_⟩
    · refine T_of rfl ?_
      refine Ev_iload rfl rfl ?_
      refine Ev_const rfl ?_
      refine Ev_icmp_eq rfl (fun h2 => ?_) (fun h2 => absurd rfl h2)
      refine Ev_aload rfl rfl rfl ?_
      refine Ev_getR rfl (by first | rfl | assumption) (hρ _ _ _ rfl) ?_
      refine Ev_callV rfl rfl rfl rfl rfl (same_n 402) (t_findMatch _ hC.2.1 hW hWt hWf hCS hSw hhr nh) ?_
      rintro v19 ρ19 σ19 ⟨rfl, e19, s19, p19⟩
      obtain rfl := e19.symm
      refine Ev_istore rfl ?_
      refine Ev_iload rfl rfl ?_
      refine Ev_const rfl ?_
      refine Ev_icmp_ne rfl (fun h25 => absurd rfl h25) (fun h25 => ?_)
      refine Ev_iload rfl rfl ?_
      refine Ev_goto rfl ?_
      exact Ev_ireturn rfl rfl rfl rfl ⟨rfl, hC.pure s19⟩
    · have hρ := hM.1
      refine T_of rfl ?_
      refine Ev_iload rfl rfl ?_
      refine Ev_const rfl ?_
      refine Ev_icmp_eq rfl (fun h2 => ?_) (fun h2 => absurd rfl h2)
      refine Ev_aload rfl rfl rfl ?_
      refine Ev_callV rfl rfl rfl rfl rfl (same_n 402) (m_laysMatch _ hM hA) ?_
      rintro v16 ρ16 σ16 ⟨rfl, e16, s16, g16, t16⟩
      obtain rfl := e16.symm
      refine Ev_iload rfl rfl ?_
      refine Ev_const rfl ?_
      refine Ev_icmp_ne rfl (fun h21 => absurd rfl h21) (fun h21 => ?_)
      refine Ev_aload rfl rfl rfl ?_
      refine Ev_getR rfl (by first | rfl | assumption) (hρ _ _ _ rfl) ?_
      refine Ev_const rfl ?_
      refine Ev_iald rfl (by first | rfl | assumption) (vp_in_nI (n := 0) (by decide) (by decide)) ?_
      refine Ev_norm (t16 0 (Nat.zero_le _) 0 (by decide) : _ = nI (mB (gnM (aB A) (aN A).2.1 (wit (aB A)) (aN A).1 (tdM (aB A) (aN A).1)) (ni (aB A)) (nb (aB A)) 0 0)) ?_
      exact Ev_ireturn rfl rfl rfl rfl ⟨rfl, rfl, hM.pure s16⟩
  by_cases h : hasF (nb (aB A)) a = true
  · obtain ⟨x, hx, rfl⟩ := hasF_of h
    refine ⟨plV (mP (gnM (aB A) (aN A).2.1 (wit (aB A)) (aN A).1 (tdM (aB A) (aN A).1)) (ni (aB A)) (nb (aB A)) x (mtS (gnM (aB A) (aN A).2.1 (wit (aB A)) (aN A).1 (tdM (aB A) (aN A).1)) (ni (aB A)) (nb (aB A)) x)), A, hA, ?_, fun ρ σ hM => ?_⟩
    · refine T_of rfl ?_
      refine Ev_iload rfl rfl ?_
      refine Ev_const rfl ?_
      refine Ev_icmp_eq rfl (fun h2 => absurd h2 h1) (fun h2 => ?_)
      refine Ev_aload rfl rfl rfl ?_
      refine Ev_iload rfl rfl ?_
      refine Ev_callV rfl rfl rfl rfl rfl (same_n 402) ((t_hasX _ _ hC.1.1 hC.2.1 hW).2) ?_
      rintro v7 ρ7 σ7 ⟨rfl, e7, g7⟩
      obtain rfl := e7.symm
      obtain rfl := g7.symm
      refine Ev_if_ne rfl (fun h10 => ?_) (fun h10 => absurd (by rw [h]; decide) h10)
      refine Ev_aload rfl rfl rfl ?_
      refine Ev_getR rfl (by first | rfl | assumption) (hρ _ _ _ rfl) ?_
      refine Ev_callV rfl rfl rfl rfl rfl (same_n 402) (t_findMatch _ hC.2.1 hW hWt hWf hCS hSw hhr nh) ?_
      rintro v19 ρ19 σ19 ⟨rfl, e19, s19, p19⟩
      obtain rfl := e19.symm
      refine Ev_istore rfl ?_
      refine Ev_iload rfl rfl ?_
      refine Ev_const rfl ?_
      refine Ev_icmp_ne rfl (fun h25 => ?_) (fun h25 => absurd h1 h25)
      refine Ev_aload rfl rfl rfl ?_
      refine Ev_getR rfl (by first | rfl | assumption) (hρ _ _ _ rfl) ?_
      refine Ev_getR rfl (by first | rfl | assumption) (hρ _ _ _ rfl) ?_
      refine Ev_iload rfl rfl ?_
      refine Ev_iald rfl (by first | rfl | assumption) (vp_in_nI (n := x) (show x < 6 by omega) (by decide)) ?_
      refine Ev_norm (by rw [nI_clamp (by omega)]; exact p19 x hx : _ = plV (mP (gnM (aB A) (aN A).2.1 (wit (aB A)) (aN A).1 (tdM (aB A) (aN A).1)) (ni (aB A)) (nb (aB A)) x (mtS (gnM (aB A) (aN A).2.1 (wit (aB A)) (aN A).1 (tdM (aB A) (aN A).1)) (ni (aB A)) (nb (aB A)) x))) ?_
      exact Ev_ireturn rfl rfl rfl rfl ⟨rfl, hC.pure s19⟩
    · have hρ := hM.1
      refine T_of rfl ?_
      refine Ev_iload rfl rfl ?_
      refine Ev_const rfl ?_
      refine Ev_icmp_eq rfl (fun h2 => absurd h2 h1) (fun h2 => ?_)
      refine Ev_aload rfl rfl rfl ?_
      refine Ev_iload rfl rfl ?_
      refine Ev_callV rfl rfl rfl rfl rfl (same_n 402) (m_isBather _ hρ hM.2.1.1 hW _) ?_
      rintro v7 ρ7 σ7 ⟨rfl, e7, g7⟩
      obtain rfl := e7.symm
      obtain rfl := g7.symm
      refine Ev_if_ne rfl (fun h10 => ?_) (fun h10 => absurd (by rw [← hasF_eq, h]; decide) h10)
      refine Ev_aload rfl rfl rfl ?_
      refine Ev_callV rfl rfl rfl rfl rfl (same_n 402) (m_laysMatch _ hM hA) ?_
      rintro v16 ρ16 σ16 ⟨rfl, e16, s16, g16, t16⟩
      obtain rfl := e16.symm
      refine Ev_iload rfl rfl ?_
      refine Ev_const rfl ?_
      refine Ev_icmp_ne rfl (fun h21 => ?_) (fun h21 => absurd h1 h21)
      refine Ev_const rfl ?_
      refine Ev_istore rfl ?_
      refine Ev_const rfl ?_
      refine Ev_istore rfl ?_
      refine Ev_const rfl ?_
      refine Ev_istore rfl ?_
      exact mm_loop (d := 93) (hM.mx s16) hA hx (gnM_le _ _ _ _ _) g16 t16 ⟨rfl, rfl, hM.pure s16⟩ (x + 1) 0 (-1) (by omega) (fun z => by omega)
  · refine ⟨-1, A, hA, ?_, fun ρ σ hM => ?_⟩
    · refine T_of rfl ?_
      refine Ev_iload rfl rfl ?_
      refine Ev_const rfl ?_
      refine Ev_icmp_eq rfl (fun h2 => absurd h2 h1) (fun h2 => ?_)
      refine Ev_aload rfl rfl rfl ?_
      refine Ev_iload rfl rfl ?_
      refine Ev_callV rfl rfl rfl rfl rfl (same_n 402) ((t_hasX _ _ hC.1.1 hC.2.1 hW).2) ?_
      rintro v7 ρ7 σ7 ⟨rfl, e7, g7⟩
      obtain rfl := e7.symm
      obtain rfl := g7.symm
      refine Ev_if_ne rfl (fun h10 => absurd (rt_of h10) h) (fun h10 => ?_)
      refine Ev_const rfl ?_
      exact Ev_ireturn rfl rfl rfl rfl ⟨rfl, hC.same⟩
    · have hρ := hM.1
      refine T_of rfl ?_
      refine Ev_iload rfl rfl ?_
      refine Ev_const rfl ?_
      refine Ev_icmp_eq rfl (fun h2 => absurd h2 h1) (fun h2 => ?_)
      refine Ev_aload rfl rfl rfl ?_
      refine Ev_iload rfl rfl ?_
      refine Ev_callV rfl rfl rfl rfl rfl (same_n 402) (m_isBather _ hρ hM.2.1.1 hW _) ?_
      rintro v7 ρ7 σ7 ⟨rfl, e7, g7⟩
      obtain rfl := e7.symm
      obtain rfl := g7.symm
      refine Ev_if_ne rfl (fun h10 => absurd (rt_of h10) h) (fun h10 => ?_)
      refine Ev_const rfl ?_
      exact Ev_ireturn rfl rfl rfl rfl ⟨rfl, rfl, hM.same⟩
end S87
