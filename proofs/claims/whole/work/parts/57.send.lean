/-! A row of the plan told anew; an act undone. -/
theorem CMo.send {σ : St} {B : Bh} {N : Mo} {k b i : Nat} (H : CMo σ 32 B N) : CMo (sI (sI σ 40 (upd (σ.1 40) k (nI b))) 41 (upd (σ.1 41) k (nI i))) 32 B (nP N k b i) := by
  obtain ⟨h1, h2, h3, h4⟩ := H
  refine ⟨by rw [sR_1 _ _ (by omega), sR_1 _ _ (by omega)]; exact h1, fun b' hb' => (h2 b' hb').eq (by rw [sR_1 _ _ (by omega), sR_1 _ _ (by omega)]), ⟨by rw [sR_1 _ _ (by omega), sR_1 _ _ (by omega)]; exact h3.1, fun j hj => ?_⟩, by rw [sR_1 _ _ (by omega), sR_1 _ _ (by omega)]; exact h4.1, h4.2.1, by rw [sR_1 _ _ (by omega), sR_1 _ _ (by omega)]; exact h4.2.2⟩
  show (sI (sI σ 40 (upd (σ.1 40) k (nI b))) 41 (upd (σ.1 41) k (nI i))).1 40 j = nI (updN (updN N.2.2.1 (2 * k) b) (2 * k + 1) i (2 * j)) ∧ (sI (sI σ 40 (upd (σ.1 40) k (nI b))) 41 (upd (σ.1 41) k (nI i))).1 41 j = nI (updN (updN N.2.2.1 (2 * k) b) (2 * k + 1) i (2 * j + 1))
  rw [sR_1 _ _ (by omega), sR_0, sR_0]
  unfold updN
  by_cases hq : j = k
  · subst hq
    rw [pk_us, pk_us, if_neg (by omega), if_pos rfl, if_pos rfl]; exact ⟨rfl, rfl⟩
  · rw [pk_un hq, pk_un hq, if_neg (by omega), if_neg (by omega), if_neg (by omega), if_neg (by omega)]; exact h3.2 j hj
theorem MMo.send {f : Nat → Int32} {B : Bh} {N : Mo} {k b i : Nat} (hW : WfN B) (H : MMo f B N) (hk : k < np B) : MMo (upd (upd f (49 + 2 * k) (nI b)) (49 + 2 * k + 1) (nI i)) B (nP N k b i) := by
  obtain ⟨h1, h2, h3, h4, h5⟩ := H
  have h16 := hW.2.2.2.1
  refine ⟨by rw [pk_un (by omega), pk_un (by omega)]; exact h1, fun b' i' hb' hi' => by rw [pk_un (by omega), pk_un (by omega)]; exact h2 b' i' hb' hi', fun j hj => ?_, by rw [pk_un (by omega), pk_un (by omega)]; exact h4, h5.of (fun j hj => by rw [pk_un (by omega), pk_un (by omega)])⟩
  show _ = nI (updN (updN N.2.2.1 (2 * k) b) (2 * k + 1) i j)
  unfold updN
  by_cases hq : j = 2 * k + 1
  · subst hq; rw [if_pos rfl, show 49 + (2 * k + 1) = 49 + 2 * k + 1 by omega, pk_us]
  · rw [if_neg hq, pk_un (by omega)]
    by_cases hq2 : j = 2 * k
    · subst hq2; rw [if_pos rfl, pk_us]
    · rw [if_neg hq2, pk_un (by omega)]; exact h3 j hj
theorem MPas.pop {σ : St} {B : Bh} {P : Nat × (Nat → Mo)} (H : MPas σ B P) (h0 : 0 < P.1) (h20 : P.1 ≤ 20) {σ' : St} (h1 : σ'.1 326 73 = nI (P.1 - 1)) (h2 : ∀ w, w < 20 → σ.1 326 74 = nI w → σ'.1 326 74 = nI ((w + 20 - 1) % 20)) (h3 : σ'.1 374 = σ.1 374) : MPas σ' B (popP P) := by
  obtain ⟨p1, w, hw, p2, p3⟩ := H
  refine ⟨h1, (w + 20 - 1) % 20, Nat.mod_lt _ (by decide), h2 w hw p2, fun k hk => ?_⟩
  have hk : k < P.1 - 1 := hk
  rw [h3]
  have := p3 (k + 1) (by omega)
  rw [show ((w + 20 - 1) % 20 + 20 - k) % 20 = (w + 20 - (k + 1)) % 20 by omega]
  exact this
section S57
variable {l : Launch} {X : Cx}
theorem op_send (k a b : Int32) : OpI l X InvA 133 257 [.int k, .int a, .int b] := by
  refine op_of (fun A q ρ σ hA hC hρ => ?_)
  have hW := hA.1.1
  have n8 := hW.1
  have n6 := hW.2.1
  have n16 := hW.2.2.2.1
  have hpl := hA.2.1.2.2.1
  have hcp := hC.2.2.2.1.2.2.1
  by_cases h : (hasF (np (aB A)) k && (hasF (nb (aB A)) a && hasF (ni (aB A)) b)) = true
  · obtain ⟨hk, hab⟩ := Bool.and_eq_true_iff.mp h
    obtain ⟨ha, hb⟩ := Bool.and_eq_true_iff.mp hab
    obtain ⟨z, hz, rfl⟩ := hasF_of hk
    obtain ⟨x, hx, rfl⟩ := hasF_of ha
    obtain ⟨y, hy, rfl⟩ := hasF_of hb
    have hl := hpl z hz
    have c1 := (hcp.2 z hz).1
    have c2 := (hcp.2 z hz).2
    have e1 : nI ((aN A).2.2.1 (2 * z)) = nI x ↔ (aN A).2.2.1 (2 * z) = x := nI_eq (by omega) (by omega)
    have e2 : nI ((aN A).2.2.1 (2 * z + 1)) = nI y ↔ (aN A).2.2.1 (2 * z + 1) = y := nI_eq (by omega) (by omega)
    by_cases hs : (aN A).2.2.1 (2 * z) = x ∧ (aN A).2.2.1 (2 * z + 1) = y
    · refine ⟨0, sU A 2, hA.refu 2, ?_, fun ρ σ hM => ?_⟩
      · refine T_of rfl ?_
        refine Ev_iload rfl rfl ?_
        refine Ev_if_lt rfl (fun h1 => absurd h1 (nI_pos (by omega))) (fun h1 => ?_)
        refine Ev_iload rfl rfl ?_
        refine Ev_aload rfl rfl rfl ?_
        refine Ev_getR rfl (by first | rfl | assumption) (hρ _ _ _ rfl) ?_
        refine Ev_getI rfl (by first | rfl | assumption) ?_
        refine Ev_norm hcp.1 ?_
        refine Ev_icmp_ge rfl (fun h12 => absurd h12 (nI_ge (by omega) (by omega))) (fun h12 => ?_)
        refine Ev_aload rfl rfl rfl ?_
        refine Ev_iload rfl rfl ?_
        refine Ev_iload rfl rfl ?_
        refine Ev_callV rfl rfl rfl rfl rfl (same_n 402) (t_hasBoth _ _ _ hC.1.1 hC.2.1 hW) ?_
        rintro v18 ρ18 σ18 ⟨rfl, e18, g18⟩
        obtain rfl := e18.symm
        obtain rfl := g18.symm
        refine Ev_if_eq rfl (fun h21 => absurd h21 (by rw [hab]; decide)) (fun h21 => ?_)
        refine Ev_aload rfl rfl rfl ?_
        refine Ev_getR rfl (by first | rfl | assumption) (hρ _ _ _ rfl) ?_
        refine Ev_getR rfl (by first | rfl | assumption) (hρ _ _ _ rfl) ?_
        refine Ev_iload rfl rfl ?_
        refine Ev_iald rfl (by first | rfl | assumption) (vp_in_nI (n := z) (show z < 16 by omega) (by decide)) ?_
        refine Ev_norm (by rw [nI_clamp (by omega)]; exact c1 : _ = nI ((aN A).2.2.1 (2 * z))) ?_
        refine Ev_iload rfl rfl ?_
        refine Ev_icmp_ne rfl (fun h34 => absurd (e1.mpr hs.1) h34) (fun h34 => ?_)
        refine Ev_aload rfl rfl rfl ?_
        refine Ev_getR rfl (by first | rfl | assumption) (hρ _ _ _ rfl) ?_
        refine Ev_getR rfl (by first | rfl | assumption) (hρ _ _ _ rfl) ?_
        refine Ev_iload rfl rfl ?_
        refine Ev_iald rfl (by first | rfl | assumption) (vp_in_nI (n := z) (show z < 16 by omega) (by decide)) ?_
        refine Ev_norm (by rw [nI_clamp (by omega)]; exact c2 : _ = nI ((aN A).2.2.1 (2 * z + 1))) ?_
        refine Ev_iload rfl rfl ?_
        refine Ev_icmp_ne rfl (fun h47 => absurd (e2.mpr hs.2) h47) (fun h47 => ?_)
        refine Ev_aload rfl rfl rfl ?_
        refine Ev_const rfl ?_
        refine Ev_callV rfl rfl rfl rfl rfl (same_n 402) (t_refuse _ hρ (w := 2) (by decide)) ?_
        rintro v52 ρ52 σ52 ⟨rfl, e52, g52⟩
        obtain rfl := e52.symm
        obtain rfl := g52.symm
        refine Ev_pop rfl (fun _ q => nomatch q) ?_
        refine Ev_const rfl ?_
        exact Ev_ireturn rfl rfl rfl rfl ⟨rfl, hρ, upM.bump _, q, hC.refu (by decide)⟩
      · have hρ := hM.1
        have hmp := RM.pl hM
        refine T_of rfl ?_
        refine Ev_iload rfl rfl ?_
        refine Ev_i2l rfl ?_
        refine Ev_constL rfl ?_
        refine Ev_aload rfl rfl rfl ?_
        refine Ev_callV rfl rfl rfl rfl rfl (same_n 402) (m_planMany _ hρ hM.2.1.1) ?_
        rintro v4 ρ4 σ4 ⟨rfl, e4, g4⟩
        obtain rfl := e4.symm
        obtain rfl := g4.symm
        refine Ev_const rfl ?_
        refine Ev_isub rfl ?_
        refine Ev_i2l rfl ?_
        refine Ev_callS rfl rfl rfl rfl (same_n 402) (m_isIn _ _ _ _) ?_
        rintro v10 ρ10 σ10 ⟨rfl, e10, g10⟩
        obtain rfl := e10.symm
        obtain rfl := g10.symm
        refine Ev_if_eq rfl (fun h13 => absurd h13 (by rw [isIn_n (by omega), l_of, show decide (0 ≤ (nI z).toInt ∧ (nI z).toInt < (np (aB A) : Int)) = true from hk]; decide)) (fun h13 => ?_)
        refine Ev_aload rfl rfl rfl ?_
        refine Ev_iload rfl rfl ?_
        refine Ev_callV rfl rfl rfl rfl rfl (same_n 402) (m_isBather _ hρ hM.2.1.1 hW _) ?_
        rintro v18 ρ18 σ18 ⟨rfl, e18, g18⟩
        obtain rfl := e18.symm
        obtain rfl := g18.symm
        refine Ev_if_eq rfl (fun h21 => absurd h21 (by rw [show decide (0 ≤ (nI x).toInt ∧ (nI x).toInt < (nb (aB A) : Int)) = true from ha]; decide)) (fun h21 => ?_)
        refine Ev_aload rfl rfl rfl ?_
        refine Ev_iload rfl rfl ?_
        refine Ev_i2l rfl ?_
        refine Ev_callV rfl rfl rfl rfl rfl (same_n 402) (m_isIdea _ hρ hM.2.1.1 hW _) ?_
        rintro v27 ρ27 σ27 ⟨rfl, e27, g27⟩
        obtain rfl := e27.symm
        obtain rfl := g27.symm
        refine Ev_if_ne rfl (fun h30 => ?_) (fun h30 => absurd (by rw [l_of, show decide (0 ≤ (nI y).toInt ∧ (nI y).toInt < (ni (aB A) : Int)) = true from hb]; decide) h30)
        refine Ev_const rfl ?_
        refine Ev_const rfl ?_
        refine Ev_iload rfl rfl ?_
        refine Ev_imul rfl ?_
        refine Ev_norm (pk_mul 2 z) ?_
        refine Ev_iadd rfl ?_
        refine Ev_norm (nI_add 49 (2 * z)) ?_
        refine Ev_istore rfl ?_
        refine Ev_aload rfl rfl rfl ?_
        refine Ev_getR rfl (by first | rfl | assumption) (hρ _ _ _ rfl) ?_
        refine Ev_iload rfl rfl ?_
        refine Ev_iald rfl (by first | rfl | assumption) (vp_in_nI (n := 49 + 2 * z) (show 49 + 2 * z < 242 by omega) (by decide)) ?_
        refine Ev_norm (by rw [nI_clamp (by omega)]; exact hmp (2 * z) (by omega) : _ = nI ((aN A).2.2.1 (2 * z))) ?_
        refine Ev_iload rfl rfl ?_
        refine Ev_icmp_ne rfl (fun h54 => absurd (e1.mpr hs.1) h54) (fun h54 => ?_)
        refine Ev_aload rfl rfl rfl ?_
        refine Ev_getR rfl (by first | rfl | assumption) (hρ _ _ _ rfl) ?_
        refine Ev_iload rfl rfl ?_
        refine Ev_const rfl ?_
        refine Ev_iadd rfl ?_
        refine Ev_norm (nI_1 (49 + 2 * z)) ?_
        refine Ev_iald rfl (by first | rfl | assumption) (vp_in_nI (n := 49 + 2 * z + 1) (show 49 + 2 * z + 1 < 242 by omega) (by decide)) ?_
        refine Ev_norm (by rw [nI_clamp (by omega)]; exact hmp (2 * z + 1) (by omega) : _ = nI ((aN A).2.2.1 (2 * z + 1))) ?_
        refine Ev_iload rfl rfl ?_
        refine Ev_icmp_ne rfl (fun h67 => absurd (e2.mpr hs.2) h67) (fun h67 => ?_)
        refine Ev_aload rfl rfl rfl ?_
        refine Ev_callV rfl rfl rfl rfl rfl (same_n 402) (m_isRefused _ hρ) ?_
        rintro v71 ρ71 σ71 ⟨rfl, e71, g71⟩
        obtain rfl := e71.symm
        obtain rfl := g71.symm
        exact Ev_ireturn rfl rfl rfl rfl ⟨rfl, rfl, upC.bump _, hM.refu (by decide)⟩
    · refine ⟨1, sP (sN A (nP (aN A) z x y)) (pushP (aP A) (aN A)), hA.nowP (nP_wf hA.2.1 hx hy), ?_, fun ρ σ hM => ?_⟩
      · have fin : Ev l X 100 133 58 [.ref 0, .int (nI z), .int (nI x), .int (nI y)] [] 402 402 402 ρ σ (fun v ρ' σ' => v = some (.int 1) ∧ RF ρ' ∧ upM σ σ' ∧ ∃ q', RC q' ρ' σ' (sP (sN A (nP (aN A) z x y)) (pushP (aP A) (aN A)))) := by
          refine Ev_aload rfl rfl rfl ?_
          refine Ev_getR rfl (by first | rfl | assumption) (hρ _ _ _ rfl) ?_
          refine Ev_aload rfl rfl rfl ?_
          refine Ev_getR rfl (by first | rfl | assumption) (hρ _ _ _ rfl) ?_
          refine Ev_callV rfl rfl rfl rfl rfl (same_n 402) (t_push _ hρ hW hC.2.2.2.1 hC.2.2.2.2.1 hA.2.2.1.1) ?_
          rintro v66 ρ66 σ66 ⟨rfl, e66, p1, p2, p3⟩
          obtain rfl := e66.symm
          refine Ev_aload rfl rfl rfl ?_
          refine Ev_getR rfl (by first | rfl | assumption) (hρ _ _ _ rfl) ?_
          refine Ev_getR rfl (by first | rfl | assumption) (hρ _ _ _ rfl) ?_
          refine Ev_iload rfl rfl ?_
          refine Ev_iload rfl rfl ?_
          refine Ev_iast rfl (by first | rfl | assumption) (vp_in_nI (n := z) (show z < 16 by omega) (by decide)) ?_
          rw [nI_clamp (show z < 2 ^ 31 by omega)]
          refine Ev_aload rfl rfl rfl ?_
          refine Ev_getR rfl (by first | rfl | assumption) (hρ _ _ _ rfl) ?_
          refine Ev_getR rfl (by first | rfl | assumption) (hρ _ _ _ rfl) ?_
          refine Ev_iload rfl rfl ?_
          refine Ev_iload rfl rfl ?_
          refine Ev_iast rfl (by first | rfl | assumption) (vp_in_nI (n := z) (show z < 16 by omega) (by decide)) ?_
          rw [nI_clamp (show z < 2 ^ 31 by omega), sR_1 _ _ (by decide)]
          refine Ev_const rfl ?_
          exact Ev_ireturn rfl rfl rfl rfl (by
          have g2 := fr_now (σ := sI σ66 40 (upd (σ66.1 40) z (nI x))) (k := 41) (j := z) (x := nI y) (by omega) (by omega)
          rw [sR_1 _ _ (by decide)] at g2
          have f1 := ((fr_push p2 p3).tr (fr_now (σ := σ66) (k := 40) (j := z) (x := nI x) (by omega) (by omega))).tr g2
          have hn : CMo σ66 32 (aB A) (aN A) := hC.2.2.2.1.eq (fun r hr => p3 _ (by omega))
          have hp := (p1.cf (CF.cell (C := fun k _ => Nat.beq k 40) σ66 (k := 40) (upd (σ66.1 40) z (nI x)) (fun _ => rfl)) (fun k j k1 k2 => nbeq (by omega))).cf (CF.cell (C := fun k _ => Nat.beq k 41) _ (k := 41) (upd (σ66.1 41) z (nI y)) (fun _ => rfl)) (fun k j k1 k2 => nbeq (by omega))
          exact ⟨rfl, hρ, cNP_up f1, q, hC.nowP f1 hn.send hp⟩)
        refine T_of rfl ?_
        refine Ev_iload rfl rfl ?_
        refine Ev_if_lt rfl (fun h1 => absurd h1 (nI_pos (by omega))) (fun h1 => ?_)
        refine Ev_iload rfl rfl ?_
        refine Ev_aload rfl rfl rfl ?_
        refine Ev_getR rfl (by first | rfl | assumption) (hρ _ _ _ rfl) ?_
        refine Ev_getI rfl (by first | rfl | assumption) ?_
        refine Ev_norm hcp.1 ?_
        refine Ev_icmp_ge rfl (fun h12 => absurd h12 (nI_ge (by omega) (by omega))) (fun h12 => ?_)
        refine Ev_aload rfl rfl rfl ?_
        refine Ev_iload rfl rfl ?_
        refine Ev_iload rfl rfl ?_
        refine Ev_callV rfl rfl rfl rfl rfl (same_n 402) (t_hasBoth _ _ _ hC.1.1 hC.2.1 hW) ?_
        rintro v18 ρ18 σ18 ⟨rfl, e18, g18⟩
        obtain rfl := e18.symm
        obtain rfl := g18.symm
        refine Ev_if_eq rfl (fun h21 => absurd h21 (by rw [hab]; decide)) (fun h21 => ?_)
        refine Ev_aload rfl rfl rfl ?_
        refine Ev_getR rfl (by first | rfl | assumption) (hρ _ _ _ rfl) ?_
        refine Ev_getR rfl (by first | rfl | assumption) (hρ _ _ _ rfl) ?_
        refine Ev_iload rfl rfl ?_
        refine Ev_iald rfl (by first | rfl | assumption) (vp_in_nI (n := z) (show z < 16 by omega) (by decide)) ?_
        refine Ev_norm (by rw [nI_clamp (by omega)]; exact c1 : _ = nI ((aN A).2.2.1 (2 * z))) ?_
        refine Ev_iload rfl rfl ?_
        refine Ev_icmp_ne rfl (fun h34 => ?_) (fun h34 => ?_)
        · exact fin
        · refine Ev_aload rfl rfl rfl ?_
          refine Ev_getR rfl (by first | rfl | assumption) (hρ _ _ _ rfl) ?_
          refine Ev_getR rfl (by first | rfl | assumption) (hρ _ _ _ rfl) ?_
          refine Ev_iload rfl rfl ?_
          refine Ev_iald rfl (by first | rfl | assumption) (vp_in_nI (n := z) (show z < 16 by omega) (by decide)) ?_
          refine Ev_norm (by rw [nI_clamp (by omega)]; exact c2 : _ = nI ((aN A).2.2.1 (2 * z + 1))) ?_
          refine Ev_iload rfl rfl ?_
          refine Ev_icmp_ne rfl (fun h47 => ?_) (fun h47 => absurd ⟨e1.mp (Decidable.not_not.mp h34), e2.mp (Decidable.not_not.mp h47)⟩ hs)
          exact fin
      · have hρ := hM.1
        have hmp := RM.pl hM
        have fin : Ev l X 100 257 75 [.ref 326, .int (nI z), .int (nI x), .int (nI y), .int (nI (49 + 2 * z))] [] 402 402 402 ρ σ (fun v ρ' σ' => v = some (.int 1) ∧ ρ' = ρ ∧ upC σ σ' ∧ RM ρ' σ' (sP (sN A (nP (aN A) z x y)) (pushP (aP A) (aN A)))) := by
          refine Ev_aload rfl rfl rfl ?_
          refine Ev_callV rfl rfl rfl rfl rfl (same_n 402) (m_stores _ hρ hW hM.2.2.2.1 hA.2.1.2.2.2 (MPas.st hM) hA.2.2.1.1 (h40s hA)) ?_
          rintro v76 ρ76 σ76 ⟨rfl, e76, p1, p2⟩
          obtain rfl := e76.symm
          refine Ev_aload rfl rfl rfl ?_
          refine Ev_getR rfl (by first | rfl | assumption) (hρ _ _ _ rfl) ?_
          refine Ev_iload rfl rfl ?_
          refine Ev_iload rfl rfl ?_
          refine Ev_iast rfl (by first | rfl | assumption) (vp_in_nI (n := 49 + 2 * z) (show 49 + 2 * z < 242 by omega) (by decide)) ?_
          rw [nI_clamp (show 49 + 2 * z < 2 ^ 31 by omega)]
          refine Ev_aload rfl rfl rfl ?_
          refine Ev_getR rfl (by first | rfl | assumption) (hρ _ _ _ rfl) ?_
          refine Ev_iload rfl rfl ?_
          refine Ev_const rfl ?_
          refine Ev_iadd rfl ?_
          refine Ev_norm (nI_1 (49 + 2 * z)) ?_
          refine Ev_iload rfl rfl ?_
          refine Ev_iast rfl (by first | rfl | assumption) (vp_in_nI (n := 49 + 2 * z + 1) (show 49 + 2 * z + 1 < 242 by omega) (by decide)) ?_
          rw [nI_clamp (show 49 + 2 * z + 1 < 2 ^ 31 by omega), sI_sI, sR_0]
          refine Ev_const rfl ?_
          exact Ev_ireturn rfl rfl rfl rfl (by
          have f1 := (mf_store p2).tr (mf_now (σ := σ76) (upd (upd (σ76.1 365) (49 + 2 * z) (nI x)) (49 + 2 * z + 1) (nI y)))
          have hn : MMo (σ76.1 365) (aB A) (aN A) := by rw [p2.1 365 (by decide) rfl]; exact hM.2.2.2.1
          exact ⟨rfl, rfl, scK_up f1, hM.nowP f1 (by rw [sR_0]; exact hn.send hW hz) (p1.mf (MF.cell (C := fun q => Nat.beq q 365) (Fd := cN0) _ (by decide) rfl) rfl rfl)⟩)
        refine T_of rfl ?_
        refine Ev_iload rfl rfl ?_
        refine Ev_i2l rfl ?_
        refine Ev_constL rfl ?_
        refine Ev_aload rfl rfl rfl ?_
        refine Ev_callV rfl rfl rfl rfl rfl (same_n 402) (m_planMany _ hρ hM.2.1.1) ?_
        rintro v4 ρ4 σ4 ⟨rfl, e4, g4⟩
        obtain rfl := e4.symm
        obtain rfl := g4.symm
        refine Ev_const rfl ?_
        refine Ev_isub rfl ?_
        refine Ev_i2l rfl ?_
        refine Ev_callS rfl rfl rfl rfl (same_n 402) (m_isIn _ _ _ _) ?_
        rintro v10 ρ10 σ10 ⟨rfl, e10, g10⟩
        obtain rfl := e10.symm
        obtain rfl := g10.symm
        refine Ev_if_eq rfl (fun h13 => absurd h13 (by rw [isIn_n (by omega), l_of, show decide (0 ≤ (nI z).toInt ∧ (nI z).toInt < (np (aB A) : Int)) = true from hk]; decide)) (fun h13 => ?_)
        refine Ev_aload rfl rfl rfl ?_
        refine Ev_iload rfl rfl ?_
        refine Ev_callV rfl rfl rfl rfl rfl (same_n 402) (m_isBather _ hρ hM.2.1.1 hW _) ?_
        rintro v18 ρ18 σ18 ⟨rfl, e18, g18⟩
        obtain rfl := e18.symm
        obtain rfl := g18.symm
        refine Ev_if_eq rfl (fun h21 => absurd h21 (by rw [show decide (0 ≤ (nI x).toInt ∧ (nI x).toInt < (nb (aB A) : Int)) = true from ha]; decide)) (fun h21 => ?_)
        refine Ev_aload rfl rfl rfl ?_
        refine Ev_iload rfl rfl ?_
        refine Ev_i2l rfl ?_
        refine Ev_callV rfl rfl rfl rfl rfl (same_n 402) (m_isIdea _ hρ hM.2.1.1 hW _) ?_
        rintro v27 ρ27 σ27 ⟨rfl, e27, g27⟩
        obtain rfl := e27.symm
        obtain rfl := g27.symm
        refine Ev_if_ne rfl (fun h30 => ?_) (fun h30 => absurd (by rw [l_of, show decide (0 ≤ (nI y).toInt ∧ (nI y).toInt < (ni (aB A) : Int)) = true from hb]; decide) h30)
        refine Ev_const rfl ?_
        refine Ev_const rfl ?_
        refine Ev_iload rfl rfl ?_
        refine Ev_imul rfl ?_
        refine Ev_norm (pk_mul 2 z) ?_
        refine Ev_iadd rfl ?_
        refine Ev_norm (nI_add 49 (2 * z)) ?_
        refine Ev_istore rfl ?_
        refine Ev_aload rfl rfl rfl ?_
        refine Ev_getR rfl (by first | rfl | assumption) (hρ _ _ _ rfl) ?_
        refine Ev_iload rfl rfl ?_
        refine Ev_iald rfl (by first | rfl | assumption) (vp_in_nI (n := 49 + 2 * z) (show 49 + 2 * z < 242 by omega) (by decide)) ?_
        refine Ev_norm (by rw [nI_clamp (by omega)]; exact hmp (2 * z) (by omega) : _ = nI ((aN A).2.2.1 (2 * z))) ?_
        refine Ev_iload rfl rfl ?_
        refine Ev_icmp_ne rfl (fun h54 => ?_) (fun h54 => ?_)
        · exact fin
        · refine Ev_aload rfl rfl rfl ?_
          refine Ev_getR rfl (by first | rfl | assumption) (hρ _ _ _ rfl) ?_
          refine Ev_iload rfl rfl ?_
          refine Ev_const rfl ?_
          refine Ev_iadd rfl ?_
          refine Ev_norm (nI_1 (49 + 2 * z)) ?_
          refine Ev_iald rfl (by first | rfl | assumption) (vp_in_nI (n := 49 + 2 * z + 1) (show 49 + 2 * z + 1 < 242 by omega) (by decide)) ?_
          refine Ev_norm (by rw [nI_clamp (by omega)]; exact hmp (2 * z + 1) (by omega) : _ = nI ((aN A).2.2.1 (2 * z + 1))) ?_
          refine Ev_iload rfl rfl ?_
          refine Ev_icmp_ne rfl (fun h67 => ?_) (fun h67 => absurd ⟨e1.mp (Decidable.not_not.mp h54), e2.mp (Decidable.not_not.mp h67)⟩ hs)
          exact fin
  · have hnot : hasF (np (aB A)) k = true → (hasF (nb (aB A)) a && hasF (ni (aB A)) b) = true → False := fun z1 z2 => h (by rw [z1, z2]; rfl)
    refine ⟨0, sU A 2, hA.refu 2, ?_, fun ρ σ hM => ?_⟩
    · refine T_of rfl ?_
      refine Ev_iload rfl rfl ?_
      refine Ev_if_lt rfl (fun h1 => ?_) (fun h1 => ?_)
      · refine Ev_aload rfl rfl rfl ?_
        refine Ev_const rfl ?_
        refine Ev_callV rfl rfl rfl rfl rfl (same_n 402) (t_refuse _ hρ (w := 2) (by decide)) ?_
        rintro v52 ρ52 σ52 ⟨rfl, e52, g52⟩
        obtain rfl := e52.symm
        obtain rfl := g52.symm
        refine Ev_pop rfl (fun _ q => nomatch q) ?_
        refine Ev_const rfl ?_
        exact Ev_ireturn rfl rfl rfl rfl ⟨rfl, hρ, upM.bump _, q, hC.refu (by decide)⟩
      · refine Ev_iload rfl rfl ?_
        refine Ev_aload rfl rfl rfl ?_
        refine Ev_getR rfl (by first | rfl | assumption) (hρ _ _ _ rfl) ?_
        refine Ev_getI rfl (by first | rfl | assumption) ?_
        refine Ev_norm hcp.1 ?_
        refine Ev_icmp_ge rfl (fun h12 => ?_) (fun h12 => ?_)
        · refine Ev_aload rfl rfl rfl ?_
          refine Ev_const rfl ?_
          refine Ev_callV rfl rfl rfl rfl rfl (same_n 402) (t_refuse _ hρ (w := 2) (by decide)) ?_
          rintro v52 ρ52 σ52 ⟨rfl, e52, g52⟩
          obtain rfl := e52.symm
          obtain rfl := g52.symm
          refine Ev_pop rfl (fun _ q => nomatch q) ?_
          refine Ev_const rfl ?_
          exact Ev_ireturn rfl rfl rfl rfl ⟨rfl, hρ, upM.bump _, q, hC.refu (by decide)⟩
        · refine Ev_aload rfl rfl rfl ?_
          refine Ev_iload rfl rfl ?_
          refine Ev_iload rfl rfl ?_
          refine Ev_callV rfl rfl rfl rfl rfl (same_n 402) (t_hasBoth _ _ _ hC.1.1 hC.2.1 hW) ?_
          rintro v18 ρ18 σ18 ⟨rfl, e18, g18⟩
          obtain rfl := e18.symm
          obtain rfl := g18.symm
          refine Ev_if_eq rfl (fun h21 => ?_) (fun h21 => (hnot (decide_eq_true (by
          rw [Int32.lt_iff_toInt_lt] at h1
          rw [Int32.le_iff_toInt_le, nI_toInt (by omega)] at h12
          have e0 : (0 : Int32).toInt = 0 := rfl
          omega)) (rt_of h21)).elim)
          refine Ev_aload rfl rfl rfl ?_
          refine Ev_const rfl ?_
          refine Ev_callV rfl rfl rfl rfl rfl (same_n 402) (t_refuse _ hρ (w := 2) (by decide)) ?_
          rintro v52 ρ52 σ52 ⟨rfl, e52, g52⟩
          obtain rfl := e52.symm
          obtain rfl := g52.symm
          refine Ev_pop rfl (fun _ q => nomatch q) ?_
          refine Ev_const rfl ?_
          exact Ev_ireturn rfl rfl rfl rfl ⟨rfl, hρ, upM.bump _, q, hC.refu (by decide)⟩
    · have hρ := hM.1
      refine T_of rfl ?_
      refine Ev_iload rfl rfl ?_
      refine Ev_i2l rfl ?_
      refine Ev_constL rfl ?_
      refine Ev_aload rfl rfl rfl ?_
      refine Ev_callV rfl rfl rfl rfl rfl (same_n 402) (m_planMany _ hρ hM.2.1.1) ?_
      rintro v4 ρ4 σ4 ⟨rfl, e4, g4⟩
      obtain rfl := e4.symm
      obtain rfl := g4.symm
      refine Ev_const rfl ?_
      refine Ev_isub rfl ?_
      refine Ev_i2l rfl ?_
      refine Ev_callS rfl rfl rfl rfl (same_n 402) (m_isIn _ _ _ _) ?_
      rintro v10 ρ10 σ10 ⟨rfl, e10, g10⟩
      obtain rfl := e10.symm
      obtain rfl := g10.symm
      refine Ev_if_eq rfl (fun h13 => ?_) (fun h13 => ?_)
      · refine Ev_aload rfl rfl rfl ?_
        refine Ev_callV rfl rfl rfl rfl rfl (same_n 402) (m_isRefused _ hρ) ?_
        rintro v34 ρ34 σ34 ⟨rfl, e34, g34⟩
        obtain rfl := e34.symm
        obtain rfl := g34.symm
        exact Ev_ireturn rfl rfl rfl rfl ⟨rfl, rfl, upC.bump _, hM.refu (by decide)⟩
      · refine Ev_aload rfl rfl rfl ?_
        refine Ev_iload rfl rfl ?_
        refine Ev_callV rfl rfl rfl rfl rfl (same_n 402) (m_isBather _ hρ hM.2.1.1 hW _) ?_
        rintro v18 ρ18 σ18 ⟨rfl, e18, g18⟩
        obtain rfl := e18.symm
        obtain rfl := g18.symm
        refine Ev_if_eq rfl (fun h21 => ?_) (fun h21 => ?_)
        · refine Ev_aload rfl rfl rfl ?_
          refine Ev_callV rfl rfl rfl rfl rfl (same_n 402) (m_isRefused _ hρ) ?_
          rintro v34 ρ34 σ34 ⟨rfl, e34, g34⟩
          obtain rfl := e34.symm
          obtain rfl := g34.symm
          exact Ev_ireturn rfl rfl rfl rfl ⟨rfl, rfl, upC.bump _, hM.refu (by decide)⟩
        · refine Ev_aload rfl rfl rfl ?_
          refine Ev_iload rfl rfl ?_
          refine Ev_i2l rfl ?_
          refine Ev_callV rfl rfl rfl rfl rfl (same_n 402) (m_isIdea _ hρ hM.2.1.1 hW _) ?_
          rintro v27 ρ27 σ27 ⟨rfl, e27, g27⟩
          obtain rfl := e27.symm
          obtain rfl := g27.symm
          refine Ev_if_ne rfl (fun h30 => (hnot (by have := rt_of h13; rwa [isIn_n (by omega), l_of] at this) (Bool.and_eq_true_iff.mpr ⟨rt_of h21, by have := rt_of h30; rwa [l_of] at this⟩)).elim) (fun h30 => ?_)
          refine Ev_aload rfl rfl rfl ?_
          refine Ev_callV rfl rfl rfl rfl rfl (same_n 402) (m_isRefused _ hρ) ?_
          rintro v34 ρ34 σ34 ⟨rfl, e34, g34⟩
          obtain rfl := e34.symm
          obtain rfl := g34.symm
          exact Ev_ireturn rfl rfl rfl rfl ⟨rfl, rfl, upC.bump _, hM.refu (by decide)⟩
theorem ud_loop {d w : Nat} {σ : St} {Q : Po} {ρ : Rf} (hρ : RF ρ) (hw : w < 20) (hwn : σ.1 326 74 = nI w) (hQ : ∀ f, (∀ j, j < 242 → f j = σ.1 374 (242 * w + j)) → Ev l X (d + 1) 253 55 [.ref 326, .int (nI 242)] [] 402 402 402 ρ (sI σ 365 f) Q) :
    ∀ (m k : Nat) (f : Nat → Int32), k + m = 242 → (∀ j, j < k → f j = σ.1 374 (242 * w + j)) → Ev l X (d + 1) 253 21 [.ref 326, .int (nI k)] [] 402 402 402 ρ (sI σ 365 f) Q := by
  intro m
  induction m with
  | zero =>
    intro k f hk hf
    have hk : k = 242 := by omega
    subst hk
    refine Ev_iload rfl rfl ?_
    refine Ev_const rfl ?_
    refine Ev_icmp_ge rfl (fun h25 => ?_) (fun h25 => absurd (by decide) h25)
    exact hQ f hf
  | succ m ih =>
    intro k f hk hf
    refine Ev_iload rfl rfl ?_
    refine Ev_const rfl ?_
    refine Ev_icmp_ge rfl (fun h25 => absurd h25 (nI_ge (b := 242) (by omega) (by decide))) (fun h25 => ?_)
    refine Ev_aload rfl rfl rfl ?_
    refine Ev_getR rfl (by first | rfl | assumption) (hρ _ _ _ rfl) ?_
    refine Ev_iload rfl rfl ?_
    refine Ev_aload rfl rfl rfl ?_
    refine Ev_getR rfl (by first | rfl | assumption) (hρ _ _ _ rfl) ?_
    refine Ev_const rfl ?_
    refine Ev_aload rfl rfl rfl ?_
    refine Ev_getI rfl (by first | rfl | assumption) ?_
    refine Ev_norm (by rw [sR_1 _ _ (by decide)]; exact hwn : _ = nI w) ?_
    refine Ev_imul rfl ?_
    refine Ev_norm (pk_mul 242 w) ?_
    refine Ev_iload rfl rfl ?_
    refine Ev_iadd rfl ?_
    refine Ev_norm (nI_add (242 * w) k) ?_
    refine Ev_iald rfl (by first | rfl | assumption) (vp_in_nI (n := 242 * w + k) (show 242 * w + k < 4840 by omega) (by decide)) ?_
    refine Ev_norm (by rw [nI_clamp (by omega), sR_1 _ _ (by decide)] : _ = σ.1 374 (242 * w + k)) ?_
    refine Ev_iast rfl (by first | rfl | assumption) (vp_in_nI (n := k) (show k < 242 by omega) (by decide)) ?_
    refine Ev_iincE rfl rfl (nI_1 k) ?_
    refine Ev_goto rfl ?_
    rw [nI_clamp (by omega), sI_sI, sR_0]
    refine ih (k + 1) _ (by omega) (fun j hj => ?_)
    by_cases hq : j = k
    · subst hq; rw [pk_us]
    · rw [pk_un hq]; exact hf j (by omega)
theorem WfA.pop {A : Ab} (h : WfA A) (h0 : 0 < (aP A).1) : WfA (sP (sN A ((aP A).2 0)) (popP (aP A))) := by
  obtain ⟨h1, h2, h3, h4, h5, h6, h7⟩ := h
  exact ⟨h1, h3.2 0 h0, ⟨Nat.le_trans (Nat.sub_le _ _) h3.1, fun k hk => h3.2 (k + 1) (by have hk : k < (aP A).1 - 1 := hk; omega)⟩, h4, h5, h6, h7⟩
theorem op_undo : OpI l X InvA 137 253 [] := by
  refine op_of (fun A q ρ σ hA hC hρ => ?_)
  have hW := hA.1.1
  have h20 := hA.2.2.1.1
  by_cases h0 : (aP A).1 = 0
  · refine ⟨0, sU A 4, hA.refu 4, ?_, fun ρ σ hM => ?_⟩
    · refine T_of rfl ?_
      refine Ev_aload rfl rfl rfl ?_
      refine Ev_getR rfl (by first | rfl | assumption) (hρ _ _ _ rfl) ?_
      refine Ev_getI rfl (by first | rfl | assumption) ?_
      refine Ev_norm (by rw [hC.2.2.2.2.1.1, h0]; rfl : _ = (0 : Int32)) ?_
      refine Ev_if_ne rfl (fun h7 => absurd rfl h7) (fun h7 => ?_)
      refine Ev_aload rfl rfl rfl ?_
      refine Ev_const rfl ?_
      refine Ev_callV rfl rfl rfl rfl rfl (same_n 402) (t_refuse _ hρ (w := 4) (by decide)) ?_
      rintro v12 ρ12 σ12 ⟨rfl, e12, g12⟩
      obtain rfl := e12.symm
      obtain rfl := g12.symm
      refine Ev_pop rfl (fun _ q => nomatch q) ?_
      refine Ev_const rfl ?_
      exact Ev_ireturn rfl rfl rfl rfl ⟨rfl, hρ, upM.bump _, q, hC.refu (by decide)⟩
    · have hρ := hM.1
      refine T_of rfl ?_
      refine Ev_aload rfl rfl rfl ?_
      refine Ev_getI rfl (by first | rfl | assumption) ?_
      refine Ev_norm (by rw [hM.2.2.2.2.1.1, h0]; rfl : _ = (0 : Int32)) ?_
      refine Ev_if_ne rfl (fun h4 => absurd rfl h4) (fun h4 => ?_)
      refine Ev_aload rfl rfl rfl ?_
      refine Ev_getR rfl (by first | rfl | assumption) (hρ _ _ _ rfl) ?_
      refine Ev_const rfl ?_
      refine Ev_dup2 rfl (fun _ q => nomatch q) (fun _ q => nomatch q) ?_
      refine Ev_iald rfl (by first | rfl | assumption) (vp_in_nI (n := 4) (by decide) (by decide)) ?_
      refine Ev_const rfl ?_
      refine Ev_iadd rfl ?_
      refine Ev_iast rfl (by first | rfl | assumption) (vp_in_nI (n := 4) (by decide) (by decide)) ?_
      refine Ev_const rfl ?_
      exact Ev_ireturn rfl rfl rfl rfl ⟨rfl, rfl, upC.put _ _ (by decide), hM.refu (w := 4) (by decide)⟩
  · have hp := Nat.pos_of_ne_zero h0
    refine ⟨1, sP (sN A ((aP A).2 0)) (popP (aP A)), hA.pop hp, ?_, fun ρ σ hM => ?_⟩
    · refine T_of rfl ?_
      refine Ev_aload rfl rfl rfl ?_
      refine Ev_getR rfl (by first | rfl | assumption) (hρ _ _ _ rfl) ?_
      refine Ev_getI rfl (by first | rfl | assumption) ?_
      refine Ev_norm hC.2.2.2.2.1.1 ?_
      refine Ev_if_ne rfl (fun h7 => ?_) (fun h7 => absurd (nI_ne0 hp (by omega)) h7)
      refine Ev_aload rfl rfl rfl ?_
      refine Ev_getR rfl (by first | rfl | assumption) (hρ _ _ _ rfl) ?_
      refine Ev_aload rfl rfl rfl ?_
      refine Ev_getR rfl (by first | rfl | assumption) (hρ _ _ _ rfl) ?_
      refine Ev_callV rfl rfl rfl rfl rfl (same_n 402) (t_pop _ hρ hW hC.2.2.2.2.1 h20 hp) ?_
      rintro v26 ρ26 σ26 ⟨rfl, e26, p1, p2, p3, p4⟩
      obtain rfl := e26.symm
      refine Ev_const rfl ?_
      exact Ev_ireturn rfl rfl rfl rfl (by
      have f1 : CF cNP σ σ26 := ⟨fun k j hk => by
          refine congrFun (p4 k (fun z => ?_)) j
          rw [cNP_in (by omega) (by omega)] at hk
          exact absurd hk (by decide), p3⟩
      exact ⟨rfl, hρ, cNP_up f1, q, hC.nowP f1 p1 p2⟩)
    · have hρ := hM.1
      have hP := MPas.st hM
      obtain ⟨p1, w, hw, p2, p3⟩ := hP
      refine T_of rfl ?_
      refine Ev_aload rfl rfl rfl ?_
      refine Ev_getI rfl (by first | rfl | assumption) ?_
      refine Ev_norm p1 ?_
      refine Ev_if_ne rfl (fun h4 => ?_) (fun h4 => absurd (nI_ne0 hp (by omega)) h4)
      refine Ev_const rfl ?_
      refine Ev_istore rfl ?_
      have := ud_loop (l := l) (X := X) (d := 99) (σ := σ) (Q := fun v ρ' σ' => v = some (.int 1) ∧ ρ' = ρ ∧ upC σ σ' ∧ RM ρ' σ' (sP (sN A ((aP A).2 0)) (popP (aP A)))) hρ hw p2 (fun f hf => ?_) 242 0 (σ.1 365) (by decide) (fun j hj => absurd hj (Nat.not_lt_zero j))
      · rw [sI_self] at this; exact this
      refine Ev_aload rfl rfl rfl ?_
      refine Ev_aload rfl rfl rfl ?_
      refine Ev_getI rfl (by first | rfl | assumption) ?_
      refine Ev_norm (by rw [sR_1 _ _ (by decide)]; exact p2 : _ = nI w) ?_
      refine Ev_const rfl ?_
      refine Ev_iadd rfl ?_
      refine Ev_norm (nI_add w 20) ?_
      refine Ev_const rfl ?_
      refine Ev_isub rfl ?_
      refine Ev_norm (pk_sub (a := w + 20) (b := 1) (by omega) : _ = nI (w + 20 - 1)) ?_
      refine Ev_const rfl ?_
      refine Ev_irem rfl (by decide : ¬ (20 : Int32) = 0) ?_
      refine Ev_norm (pk_rem (a := w + 20 - 1) (d := 20) (by omega) (by decide) (by decide) : _ = nI ((w + 20 - 1) % 20)) ?_
      refine Ev_putI rfl (by first | rfl | assumption) ⟨rfl, rfl⟩ rfl ?_
      refine Ev_aload rfl rfl rfl ?_
      refine Ev_dup rfl (fun _ q => nomatch q) ?_
      refine Ev_getI rfl (by first | rfl | assumption) ?_
      refine Ev_norm (by rw [sR_0, pk_un (by decide), sR_1 _ _ (by decide)]; exact p1 : _ = nI (aP A).1) ?_
      refine Ev_const rfl ?_
      refine Ev_isub rfl ?_
      refine Ev_norm (pk_sub (a := (aP A).1) (b := 1) (by omega) : _ = nI ((aP A).1 - 1)) ?_
      refine Ev_putI rfl (by first | rfl | assumption) ⟨rfl, rfl⟩ rfl ?_
      refine Ev_const rfl ?_
      exact Ev_ireturn rfl rfl rfl rfl (by
      have f1 : MF scK scG σ (sI (sI (sI σ 365 f) 326 (upd ((sI σ 365 f).1 326) 74 (nI ((w + 20 - 1) % 20)))) 326 (upd ((sI (sI σ 365 f) 326 (upd ((sI σ 365 f).1 326) 74 (nI ((w + 20 - 1) % 20)))).1 326) 73 (nI ((aP A).1 - 1)))) := ((mf_now f).tr (MF.put _ rfl)).tr (MF.put _ rfl)
      have h3 := p3 0 hp
      rw [show (w + 20 - 0) % 20 = w by omega] at h3
      refine ⟨rfl, rfl, scK_up f1, hM.nowP f1 ?_ ((MPas.st hM).pop hp h20 ?_ ?_ ?_)⟩
      · rw [sR_1 _ _ (by decide), sR_1 _ _ (by decide), sR_0]
        exact h3.of hW (h40s hA 0 hp) (fun j hj => hf j hj)
      · rw [sR_0, pk_us]
      · intro w' hw' hq
        rw [p2] at hq
        have := (nI_eq (by omega) (by omega)).mp hq
        subst w'
        rw [sR_0, pk_un (by decide), sR_0, pk_us]
      · rw [sR_1 _ _ (by decide), sR_1 _ _ (by decide), sR_1 _ _ (by decide)])
end S57
