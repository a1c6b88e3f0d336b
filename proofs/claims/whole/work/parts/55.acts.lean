/-! Acts: a bather forgets, is ducked, a row of the plan told anew, an act undone. -/
def nS (N : Mo) (b i v : Nat) : Mo := (N.1, (fun b' => if b' = b then updN (N.2.1 b) i v else N.2.1 b'), N.2.2.1, N.2.2.2)
def nP (N : Mo) (k b i : Nat) : Mo := (N.1, N.2.1, updN (updN N.2.2.1 (2 * k) b) (2 * k + 1) i, N.2.2.2)
theorem nS_wf {B : Bh} {N : Mo} {b i v : Nat} (h : WfM B N) (hb : b < nb B) (hi : i < ni B) (hv : v ≤ 99) : WfM B (nS N b i v) := by
  obtain ⟨h1, h2, h3, h4⟩ := h
  refine ⟨h1, fun b' i' => ?_, h3, h4⟩
  show (if b' = b then updN (N.2.1 b) i v else N.2.1 b') i' ≤ 99 ∧ (nb B ≤ b' ∨ ni B ≤ i' → (if b' = b then updN (N.2.1 b) i v else N.2.1 b') i' = 0)
  by_cases hq : b' = b
  · rw [if_pos hq]
    refine ⟨updN_le (fun j => (h2 b j).1) hv i', fun z => ?_⟩
    unfold updN
    rw [if_neg (by omega)]
    exact (h2 b i').2 (by omega)
  · rw [if_neg hq]; exact h2 b' i'
theorem nP_wf {B : Bh} {N : Mo} {k b i : Nat} (h : WfM B N) (hb : b < nb B) (hi : i < ni B) : WfM B (nP N k b i) := by
  obtain ⟨h1, h2, h3, h4⟩ := h
  refine ⟨h1, h2, fun j hj => ?_, h4⟩
  show updN (updN N.2.2.1 (2 * k) b) (2 * k + 1) i (2 * j) < nb B ∧ updN (updN N.2.2.1 (2 * k) b) (2 * k + 1) i (2 * j + 1) < ni B
  unfold updN
  by_cases hq : j = k
  · subst hq
    rw [if_neg (by omega), if_pos rfl, if_pos rfl]; exact ⟨hb, hi⟩
  · rw [if_neg (by omega), if_neg (by omega), if_neg (by omega), if_neg (by omega)]; exact h3 j hj
/-- a strength put into the class's moment -/
theorem CMo.put {σ : St} {B : Bh} {N : Mo} {b i v : Nat} (H : CMo σ 32 B N) (hb : b < 6) : CMo (sI σ (34 + b) (upd (σ.1 (34 + b)) i (nI v))) 32 B (nS N b i v) := by
  obtain ⟨h1, h2, h3, h4⟩ := H
  refine ⟨by rw [sR_1 _ _ (by omega)]; exact h1, fun b' hb' i' hi' => ?_, ⟨by rw [sR_1 _ _ (by omega)]; exact h3.1, fun k hk => by rw [sR_1 _ _ (by omega), sR_1 _ _ (by omega)]; exact h3.2 k hk⟩, by rw [sR_1 _ _ (by omega)]; exact h4.1, h4.2.1, by rw [sR_1 _ _ (by omega)]; exact h4.2.2⟩
  show (sI σ (34 + b) (upd (σ.1 (34 + b)) i (nI v))).1 (32 + 2 + b') i' = nI ((if b' = b then updN (N.2.1 b) i v else N.2.1 b') i')
  by_cases hq : b' = b
  · subst hq
    rw [if_pos rfl, show 32 + 2 + b' = 34 + b' by omega, sR_0]
    unfold updN
    by_cases hj : i' = i
    · rw [hj, if_pos rfl, pk_us]
    · rw [if_neg hj, pk_un hj]; exact h2 b' hb' i' hi'
  · rw [if_neg hq, sR_1 _ _ (by omega)]; exact h2 b' hb' i' hi'
theorem MMo.put {f : Nat → Int32} {B : Bh} {N : Mo} {b i v : Nat} (H : MMo f B N) (hb : b < 6) (hi : i < 8) : MMo (upd f (1 + 8 * b + i) (nI v)) B (nS N b i v) := by
  obtain ⟨h1, h2, h3, h4, h5⟩ := H
  refine ⟨by rw [pk_un (by omega)]; exact h1, fun b' i' hb' hi' => ?_, fun j hj => by rw [pk_un (by omega)]; exact h3 j hj, by rw [pk_un (by omega)]; exact h4, h5.of (fun j hj => pk_un (by omega))⟩
  show upd f (1 + 8 * b + i) (nI v) (1 + 8 * b' + i') = nI ((if b' = b then updN (N.2.1 b) i v else N.2.1 b') i')
  by_cases hq : b' = b
  · subst hq
    rw [if_pos rfl]
    unfold updN
    by_cases hj : i' = i
    · rw [hj, if_pos rfl, pk_us]
    · rw [if_neg hj, pk_un (by omega)]; exact h2 b' i' hb' hi'
  · rw [if_neg hq, pk_un (by omega)]; exact h2 b' i' hb' hi'
section S55
variable {l : Launch} {X : Cx}
/-- what is pushed, seen as a frame -/
theorem fr_push {σ σ' : St} (h2 : σ'.2 = σ.2) (h : ∀ k, ¬ (43 ≤ k ∧ k < 265) → σ'.1 k = σ.1 k) : CF cNP σ σ' := ⟨fun k j hk => by
  refine congrFun (h k (fun z => ?_)) j
  rw [cNP_in (by omega) (by omega)] at hk
  exact absurd hk (by decide), h2⟩
theorem fr_now {σ : St} {k j : Nat} {x : Int32} (h1 : 32 ≤ k) (h2 : k ≤ 264) : CF cNP σ (sI σ k (upd (σ.1 k) j x)) := CF.put σ x (cNP_in h1 h2)
theorem mf_now {σ : St} (f : Nat → Int32) : MF scK scG σ (sI σ 365 f) := MF.cell f (by decide) rfl
theorem scK_up {σ σ' : St} (hs : MF scK scG σ σ') : upC σ σ' := hs.upC (fun k hk => scK_lt hk)
theorem mf_store {σ σ' : St} (h : MF cK fK σ σ') : MF scK scG σ σ' := h.wk (fun _ q => cK_K q) (fun _ q => fK_G q)
theorem mf_sc {σ σ' : St} (h : MSc σ σ') : MF scK scG σ σ' := h.mx.wk (fun _ q => scC_K q) (fun _ q => scF_G q)
theorem MPas.st {ρ : Rf} {σ : St} {A : Ab} (H : RM ρ σ A) : MPas σ (aB A) (aP A) := H.2.2.2.2.1
theorem both_no {n m : Nat} {a b : Int32} (h : ¬ (hasF n a && hasF m b) = true) : (hasF n a && hasF m b) = false := Bool.eq_false_iff.mpr h
theorem h40s {A : Ab} (hA : WfA A) : ∀ k, k < (aP A).1 → ((aP A).2 k).2.2.2.1 ≤ 40 := fun k hk => (hA.2.2.1.2 k hk).2.2.2
theorem op_forget (a b : Int32) : OpI l X InvA 132 256 [.int a, .int b] := by
  refine op_of (fun A q ρ σ hA hC hρ => ?_)
  have hW := hA.1.1
  have n8 := hW.1
  have n6 := hW.2.1
  have no : ∀ (hno : ∀ x y : Nat, x < nb (aB A) → y < ni (aB A) → a = nI x → b = nI y → (aN A).2.1 x y = 0), ∃ (r : Int32) (A' : Ab), WfA A' ∧ T l X 100 132 [.ref 0, .int a, .int b] 402 402 ρ σ (fun v ρ' σ' => v = some (.int r) ∧ RF ρ' ∧ upM σ σ' ∧ ∃ q', RC q' ρ' σ' A') ∧
      ∀ ρ σ, RM ρ σ A → T l X 100 256 [.ref 326, .int a, .int b] 402 402 ρ σ (fun v ρ' σ' => v = some (.int r) ∧ ρ' = ρ ∧ upC σ σ' ∧ RM ρ' σ' A') := by
    intro hno
    refine ⟨0, sU A 2, hA.refu 2, ?_, fun ρ σ hM => ?_⟩
    · refine T_of rfl ?_
      refine Ev_aload rfl rfl rfl ?_
      refine Ev_iload rfl rfl ?_
      refine Ev_iload rfl rfl ?_
      refine Ev_callV rfl rfl rfl rfl rfl (same_n 402) (t_hasBoth _ _ _ hC.1.1 hC.2.1 hW) ?_
      rintro v3 ρ3 σ3 ⟨rfl, e3, g3⟩
      obtain rfl := e3.symm
      obtain rfl := g3.symm
      refine Ev_if_eq rfl (fun h6 => ?_) (fun h6 => ?_)
      · refine Ev_aload rfl rfl rfl ?_
        refine Ev_const rfl ?_
        refine Ev_callV rfl rfl rfl rfl rfl (same_n 402) (t_refuse _ hρ (w := 2) (by decide)) ?_
        rintro v25 ρ25 σ25 ⟨rfl, e25, g25⟩
        obtain rfl := e25.symm
        obtain rfl := g25.symm
        refine Ev_pop rfl (fun _ q => nomatch q) ?_
        refine Ev_const rfl ?_
        exact Ev_ireturn rfl rfl rfl rfl ⟨rfl, hρ, upM.bump _, q, hC.refu (by decide)⟩
      · obtain ⟨ha, hb⟩ := Bool.and_eq_true_iff.mp (rt_of h6)
        obtain ⟨x, hx, rfl⟩ := hasF_of ha
        obtain ⟨y, hy, rfl⟩ := hasF_of hb
        refine Ev_aload rfl rfl rfl ?_
        refine Ev_getR rfl (by first | rfl | assumption) (hρ _ _ _ rfl) ?_
        refine Ev_getR rfl (by first | rfl | assumption) (hρ _ _ _ rfl) ?_
        refine Ev_iload rfl rfl ?_
        refine Ev_aald (t := 4) rfl (Or.inl rfl) (by first | rfl | assumption) (vp_in_nI (n := x) (show x < 6 by omega) (by decide)) (by rw [nI_clamp (by omega)]; exact rf33 hρ (by omega) : _ = some (34 + x)) ?_
        refine Ev_iload rfl rfl ?_
        refine Ev_iald rfl ((rowN (show x < 6 by omega)).1) (by rw [(rowN (show x < 6 by omega)).2.1]; exact vp_in_nI (n := y) (show y < 8 by omega) (by decide)) ?_
        refine Ev_norm (by rw [nI_clamp (by omega), rf_str hC (by omega) (by omega), hno x y hx hy rfl rfl]; rfl : _ = (0 : Int32)) ?_
        refine Ev_if_ne rfl (fun h20 => absurd rfl h20) (fun h20 => ?_)
        refine Ev_aload rfl rfl rfl ?_
        refine Ev_const rfl ?_
        refine Ev_callV rfl rfl rfl rfl rfl (same_n 402) (t_refuse _ hρ (w := 2) (by decide)) ?_
        rintro v25 ρ25 σ25 ⟨rfl, e25, g25⟩
        obtain rfl := e25.symm
        obtain rfl := g25.symm
        refine Ev_pop rfl (fun _ q => nomatch q) ?_
        refine Ev_const rfl ?_
        exact Ev_ireturn rfl rfl rfl rfl ⟨rfl, hρ, upM.bump _, q, hC.refu (by decide)⟩
    · have hρ := hM.1
      refine T_of rfl ?_
      refine Ev_aload rfl rfl rfl ?_
      refine Ev_iload rfl rfl ?_
      refine Ev_callV rfl rfl rfl rfl rfl (same_n 402) (m_isBather _ hρ hM.2.1.1 hW _) ?_
      rintro v2 ρ2 σ2 ⟨rfl, e2, g2⟩
      obtain rfl := e2.symm
      obtain rfl := g2.symm
      refine Ev_if_eq rfl (fun h5 => ?_) (fun h5 => ?_)
      · refine Ev_aload rfl rfl rfl ?_
        refine Ev_callV rfl rfl rfl rfl rfl (same_n 402) (m_isRefused _ hρ) ?_
        rintro v27 ρ27 σ27 ⟨rfl, e27, g27⟩
        obtain rfl := e27.symm
        obtain rfl := g27.symm
        exact Ev_ireturn rfl rfl rfl rfl ⟨rfl, rfl, upC.bump _, hM.refu (by decide)⟩
      · refine Ev_aload rfl rfl rfl ?_
        refine Ev_iload rfl rfl ?_
        refine Ev_i2l rfl ?_
        refine Ev_callV rfl rfl rfl rfl rfl (same_n 402) (m_isIdea _ hρ hM.2.1.1 hW _) ?_
        rintro v11 ρ11 σ11 ⟨rfl, e11, g11⟩
        obtain rfl := e11.symm
        obtain rfl := g11.symm
        refine Ev_if_eq rfl (fun h14 => ?_) (fun h14 => ?_)
        · refine Ev_aload rfl rfl rfl ?_
          refine Ev_callV rfl rfl rfl rfl rfl (same_n 402) (m_isRefused _ hρ) ?_
          rintro v27 ρ27 σ27 ⟨rfl, e27, g27⟩
          obtain rfl := e27.symm
          obtain rfl := g27.symm
          exact Ev_ireturn rfl rfl rfl rfl ⟨rfl, rfl, upC.bump _, hM.refu (by decide)⟩
        · obtain ⟨x, hx, rfl⟩ := in_of (of_decide_eq_true (rt_of h5))
          have hy0 := of_decide_eq_true (rt_of h14)
          rw [l_of] at hy0
          obtain ⟨y, hy, rfl⟩ := in_of hy0
          refine Ev_aload rfl rfl rfl ?_
          refine Ev_iload rfl rfl ?_
          refine Ev_iload rfl rfl ?_
          refine Ev_callV rfl rfl rfl rfl rfl (same_n 402) (m_strengthOf _ hρ hM.2.2.2.1.2.1 (by omega) (by omega)) ?_
          rintro v20 ρ20 σ20 ⟨rfl, e20, g20⟩
          obtain rfl := e20.symm
          obtain rfl := g20.symm
          refine Ev_norm (by rw [hno x y hx hy rfl rfl]; rfl : _ = (0 : Int32)) ?_
          refine Ev_if_ne rfl (fun h23 => absurd rfl h23) (fun h23 => ?_)
          refine Ev_aload rfl rfl rfl ?_
          refine Ev_callV rfl rfl rfl rfl rfl (same_n 402) (m_isRefused _ hρ) ?_
          rintro v27 ρ27 σ27 ⟨rfl, e27, g27⟩
          obtain rfl := e27.symm
          obtain rfl := g27.symm
          exact Ev_ireturn rfl rfl rfl rfl ⟨rfl, rfl, upC.bump _, hM.refu (by decide)⟩
  by_cases h : (hasF (nb (aB A)) a && hasF (ni (aB A)) b) = true
  · obtain ⟨ha, hb⟩ := Bool.and_eq_true_iff.mp h
    obtain ⟨x, hx, rfl⟩ := hasF_of ha
    obtain ⟨y, hy, rfl⟩ := hasF_of hb
    by_cases h0 : (aN A).2.1 x y = 0
    · refine no (fun x' y' hx' hy' e1 e2 => ?_)
      have := (nI_eq (by omega) (by omega)).mp e1
      have := (nI_eq (by omega) (by omega)).mp e2
      subst x'; subst y'; exact h0
    · have h99 := (hA.2.1.2.1 x y).1
      refine ⟨1, sP (sN A (nS (aN A) x y 0)) (pushP (aP A) (aN A)), hA.nowP (nS_wf hA.2.1 hx hy (by decide)), ?_, fun ρ σ hM => ?_⟩
      · refine T_of rfl ?_
        refine Ev_aload rfl rfl rfl ?_
        refine Ev_iload rfl rfl ?_
        refine Ev_iload rfl rfl ?_
        refine Ev_callV rfl rfl rfl rfl rfl (same_n 402) (t_hasBoth _ _ _ hC.1.1 hC.2.1 hW) ?_
        rintro v3 ρ3 σ3 ⟨rfl, e3, g3⟩
        obtain rfl := e3.symm
        obtain rfl := g3.symm
        refine Ev_if_eq rfl (fun h6 => absurd h6 (by rw [h]; decide)) (fun h6 => ?_)
        refine Ev_aload rfl rfl rfl ?_
        refine Ev_getR rfl (by first | rfl | assumption) (hρ _ _ _ rfl) ?_
        refine Ev_getR rfl (by first | rfl | assumption) (hρ _ _ _ rfl) ?_
        refine Ev_iload rfl rfl ?_
        refine Ev_aald (t := 4) rfl (Or.inl rfl) (by first | rfl | assumption) (vp_in_nI (n := x) (show x < 6 by omega) (by decide)) (by rw [nI_clamp (by omega)]; exact rf33 hρ (by omega) : _ = some (34 + x)) ?_
        refine Ev_iload rfl rfl ?_
        refine Ev_iald rfl ((rowN (show x < 6 by omega)).1) (by rw [(rowN (show x < 6 by omega)).2.1]; exact vp_in_nI (n := y) (show y < 8 by omega) (by decide)) ?_
        refine Ev_norm (by rw [nI_clamp (by omega)]; exact rf_str hC (by omega) (by omega) : _ = nI ((aN A).2.1 x y)) ?_
        refine Ev_if_ne rfl (fun h20 => ?_) (fun h20 => absurd (nI_ne0 (Nat.pos_of_ne_zero h0) (by omega)) h20)
        refine Ev_aload rfl rfl rfl ?_
        refine Ev_getR rfl (by first | rfl | assumption) (hρ _ _ _ rfl) ?_
        refine Ev_aload rfl rfl rfl ?_
        refine Ev_getR rfl (by first | rfl | assumption) (hρ _ _ _ rfl) ?_
        refine Ev_callV rfl rfl rfl rfl rfl (same_n 402) (t_push _ hρ hW hC.2.2.2.1 hC.2.2.2.2.1 hA.2.2.1.1) ?_
        rintro v39 ρ39 σ39 ⟨rfl, e39, p1, p2, p3⟩
        obtain rfl := e39.symm
        refine Ev_aload rfl rfl rfl ?_
        refine Ev_getR rfl (by first | rfl | assumption) (hρ _ _ _ rfl) ?_
        refine Ev_getR rfl (by first | rfl | assumption) (hρ _ _ _ rfl) ?_
        refine Ev_iload rfl rfl ?_
        refine Ev_aald (t := 4) rfl (Or.inl rfl) (by first | rfl | assumption) (vp_in_nI (n := x) (show x < 6 by omega) (by decide)) (by rw [nI_clamp (by omega)]; exact rf33 hρ (by omega) : _ = some (34 + x)) ?_
        refine Ev_iload rfl rfl ?_
        refine Ev_const rfl ?_
        refine Ev_iast rfl ((rowN (show x < 6 by omega)).1) (by rw [(rowN (show x < 6 by omega)).2.1]; exact vp_in_nI (n := y) (show y < 8 by omega) (by decide)) ?_
        rw [nI_clamp (show y < 2 ^ 31 by omega)]
        refine Ev_const rfl ?_
        exact Ev_ireturn rfl rfl rfl rfl (by
        have f1 := (fr_push p2 p3).tr (fr_now (σ := σ39) (k := 34 + x) (j := y) (x := 0) (by omega) (by omega))
        have hn : CMo σ39 32 (aB A) (aN A) := hC.2.2.2.1.eq (fun r hr => p3 _ (by omega))
        have hp : CPas (sI σ39 (34 + x) (upd (σ39.1 (34 + x)) y 0)) (aB A) (pushP (aP A) (aN A)) := p1.cf (CF.cell (C := fun k _ => Nat.beq k (34 + x)) σ39 _ (fun _ => Nat.beq_refl _)) (fun k j k1 k2 => nbeq (by omega))
        exact ⟨rfl, hρ, cNP_up f1, q, hC.nowP f1 (hn.put (i := y) (v := 0) (show x < 6 by omega)) hp⟩)
      · have hρ := hM.1
        refine T_of rfl ?_
        refine Ev_aload rfl rfl rfl ?_
        refine Ev_iload rfl rfl ?_
        refine Ev_callV rfl rfl rfl rfl rfl (same_n 402) (m_isBather _ hρ hM.2.1.1 hW _) ?_
        rintro v2 ρ2 σ2 ⟨rfl, e2, g2⟩
        obtain rfl := e2.symm
        obtain rfl := g2.symm
        refine Ev_if_eq rfl (fun h5 => absurd h5 (by rw [show decide (0 ≤ (nI x).toInt ∧ (nI x).toInt < (nb (aB A) : Int)) = true from ha]; decide)) (fun h5 => ?_)
        refine Ev_aload rfl rfl rfl ?_
        refine Ev_iload rfl rfl ?_
        refine Ev_i2l rfl ?_
        refine Ev_callV rfl rfl rfl rfl rfl (same_n 402) (m_isIdea _ hρ hM.2.1.1 hW _) ?_
        rintro v11 ρ11 σ11 ⟨rfl, e11, g11⟩
        obtain rfl := e11.symm
        obtain rfl := g11.symm
        refine Ev_if_eq rfl (fun h14 => absurd h14 (by rw [l_of, show decide (0 ≤ (nI y).toInt ∧ (nI y).toInt < (ni (aB A) : Int)) = true from hb]; decide)) (fun h14 => ?_)
        refine Ev_aload rfl rfl rfl ?_
        refine Ev_iload rfl rfl ?_
        refine Ev_iload rfl rfl ?_
        refine Ev_callV rfl rfl rfl rfl rfl (same_n 402) (m_strengthOf _ hρ hM.2.2.2.1.2.1 (by omega) (by omega)) ?_
        rintro v20 ρ20 σ20 ⟨rfl, e20, g20⟩
        obtain rfl := e20.symm
        obtain rfl := g20.symm
        refine Ev_if_ne rfl (fun h23 => ?_) (fun h23 => absurd (nI_ne0 (Nat.pos_of_ne_zero h0) (by omega)) h23)
        refine Ev_aload rfl rfl rfl ?_
        refine Ev_callV rfl rfl rfl rfl rfl (same_n 402) (m_stores _ hρ hW hM.2.2.2.1 hA.2.1.2.2.2 (MPas.st hM) hA.2.2.1.1 (h40s hA)) ?_
        rintro v32 ρ32 σ32 ⟨rfl, e32, p1, p2⟩
        obtain rfl := e32.symm
        refine Ev_aload rfl rfl rfl ?_
        refine Ev_getR rfl (by first | rfl | assumption) (hρ _ _ _ rfl) ?_
        refine Ev_const rfl ?_
        refine Ev_const rfl ?_
        refine Ev_iload rfl rfl ?_
        refine Ev_imul rfl ?_
        refine Ev_norm (pk_mul 8 x) ?_
        refine Ev_iadd rfl ?_
        refine Ev_norm (nI_add 1 (8 * x)) ?_
        refine Ev_iload rfl rfl ?_
        refine Ev_iadd rfl ?_
        refine Ev_norm (nI_add (1 + 8 * x) y) ?_
        refine Ev_const rfl ?_
        refine Ev_iast rfl (by first | rfl | assumption) (vp_in_nI (n := 1 + 8 * x + y) (show 1 + 8 * x + y < 242 by omega) (by decide)) ?_
        rw [nI_clamp (show 1 + 8 * x + y < 2 ^ 31 by omega)]
        refine Ev_const rfl ?_
        exact Ev_ireturn rfl rfl rfl rfl (by
        have f1 := (mf_store p2).tr (mf_now (σ := σ32) (upd (σ32.1 365) (1 + 8 * x + y) 0))
        have hn : MMo (σ32.1 365) (aB A) (aN A) := by rw [p2.1 365 (by decide) rfl]; exact hM.2.2.2.1
        exact ⟨rfl, rfl, scK_up f1, hM.nowP f1 (by rw [sR_0]; exact hn.put (v := 0) (by omega) (by omega)) (p1.mf (MF.cell (C := fun q => Nat.beq q 365) (Fd := cN0) _ (by decide) rfl) rfl rfl)⟩)
  · exact no (fun x y hx hy e1 e2 => absurd (by subst e1; subst e2; rw [hasF_nI hx (by omega), hasF_nI hy (by omega)]; rfl) h)
end S55
