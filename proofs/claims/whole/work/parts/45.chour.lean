/-! An hour of one bather: the class. -/
/-- the cells of a row too -/
def cLr (r k j : Nat) : Bool := cL k j || Nat.beq k r
theorem cL_r {r k j : Nat} (h : cLr r k j = false) : cL k j = false := by unfold cLr at h; rw [Bool.or_eq_false_iff] at h; exact h.1
theorem cA_r {r k j : Nat} (h : cLr r k j = false) : cA0 k j = false := cA0_L (cL_r h)
theorem cLr_self (r j : Nat) : cLr r r j = true := by unfold cLr; rw [Nat.beq_refl, Bool.or_true]
theorem CRd.cr {ρ : Rf} {σ σ' : St} {q r : Nat} {B : Bh} (hr : RowO r) (H : CRd ρ σ q B) (hs : CF (cLr r) σ σ') : CRd ρ σ' q B := H.cf hs (fun k j h => by
  unfold cLr
  rw [cL_B h, nbeq (fun q => by
    subst q
    have := hr.2.2.1
    unfold cB at h
    simp only [Bool.and_eq_true, Nat.blt_eq] at h
    omega)]; rfl) (by unfold cLr; rw [nbeq (Ne.symm hr.2.2.2.2.1)]; rfl)
theorem RowR.cl {C : Nat → Nat → Bool} {σ σ' : St} {r : Nat} {row : Nat → Nat} (H : RowR σ r row) (hs : CF C σ σ') (hC : ∀ j, C r j = false) : RowR σ' r row := fun i hi => by rw [hs.1 r i (hC i)]; exact H i hi
theorem RowO.cl {r : Nat} (hr : RowO r) (j : Nat) : cL r j = false := by
  obtain ⟨-, -, h1, h2, h3, -⟩ := hr
  unfold cL
  rw [nbeq (show r ≠ 16 by omega), nbeq (show r ≠ 31 by omega), nbeq h2, nbeq h3]
  rfl
theorem RowO.ca {r : Nat} (hr : RowO r) (j : Nat) : cA0 r j = false := cA0_L (hr.cl j)
theorem fdM_see {σ : St} {B : Bh} {row : Nat → Nat} {b w h tide i v : Nat} (H : Stl σ B row b w h tide) (h1 : σ.1 266 1 = nI (dep B i)) (h6 : σ.1 266 6 = nI v) (h7 : σ.1 266 7 = nI (bif rtd B (kset (ni B) row) i then 1 else 0)) (s : Nat) (hs : s < 9) (ho : sOk 2 s = true) : σ.1 266 s = iI ((seeF B row b w h 0 i v 0 s : Nat) : Int) := by
  obtain ⟨g1, g2, g3, g4, g5, g6⟩ := H
  match s, hs, ho with
  | 0, _, _ => exact g1
  | 1, _, _ => exact h1
  | 2, _, _ => exact g2
  | 3, _, _ => exact g3
  | 4, _, ho => exact absurd ho (by decide)
  | 5, _, ho => exact absurd ho (by decide)
  | 6, _, _ => exact h6
  | 7, _, _ => exact h7
  | 8, _, ho => exact absurd ho (by decide)
section S45
variable {l : Launch} {X : Cx} {ρ : Rf} {B : Bh} {q : Nat}
theorem t_fadedTo (d : Nat) {σ : St} {b w h tide i v : Nat} {row : Nat → Nat} (hR : CRd ρ σ q B) (hW : WfN B) (hWt : WfT B) (hWf : WfF B) (H : Stl σ B row b w h tide) (hw9 : w ≤ 9) (hh : h ≤ 2000) (hb : b < nb B) (hi : i < ni B) (hv : v ≤ 99) :
    T l X (d + 3) 54 [.ref 265, .int (nI i), .int (nI v)] 402 402 ρ σ (fun u ρ' σ' => u = some (.int (nI (fdM B row b w h i v))) ∧ ρ' = ρ ∧ CF cA0 σ σ') := by
  have hρ := hR.1
  have hq := hR.2.1
  have hlf := hR.2.2.1
  have h8 := hW.1
  have hdp := (hR.2.2.2.2.1.1 i hi).1
  have hne := (hR.2.2.2.2.1.1 i hi).2
  have hkn : σ.1 265 2 = nI (kset (ni B) row) := H.2.2.2.2.2
  have hBd : ∀ s, s < 9 → sOk 2 s = true → Bd ((seeF B row b w h 0 i v 0 s : Nat) : Int) := fun s hs ho => seeBd hWt hw9 hh (Nat.zero_le _) hv (by decide) (fun _ => hb) hW.2.1 (fun _ => hi) hs ho
  have hz := (evF_ok (cod_ok hWf (k := 2) (by decide)).choose_spec hBd (fun q => absurd q (by decide))).1
  -- what is seen is laid; the rest
  have hend : ∀ g, (∀ s, s ≠ 1 → s ≠ 6 → s ≠ 7 → g s = σ.1 266 s) → g 1 = nI (dep B i) → g 6 = nI v → g 7 = nI (bif rtd B (kset (ni B) row) i then 1 else 0) →
      Ev l X (d + 3) 54 54 [.ref 265, .int (nI i), .int (nI v)] [] 402 402 402 ρ (sI σ 266 g) (fun u ρ' σ' => u = some (.int (nI (fdM B row b w h i v))) ∧ ρ' = ρ ∧ CF cA0 σ σ') := by
    intro g hg g1 g6 g7
    have c1 : CF cA0 σ (sI σ 266 g) := by
      refine ⟨fun k j hj => ?_, rfl⟩
      by_cases hk : k = 266
      · subst hk
        rw [sR_0]
        refine hg j (fun z => ?_) (fun z => ?_) (fun z => ?_) <;> (subst z; cases hj)
      · rw [sR_1 _ _ hk]
    have c1L : CF cL σ (sI σ 266 g) := c1.wk (fun _ _ h => cA0_L h)
    have hwo := t_worth (l := l) (X := X) d (hR.cl c1L) hWf (k := 2) (by decide) (see := fun s => ((seeF B row b w h 0 i v 0 s : Nat) : Int)) (fdM_see (H.ca c1) (by rw [sR_0]; exact g1) (by rw [sR_0]; exact g6) (by rw [sR_0]; exact g7)) hBd
    have c2 : ∀ f, CF cA0 (sI σ 266 g) (sI (sI σ 266 g) (q + 14) f) := cF_pile0 hq
    refine Ev_aload rfl rfl rfl ?_
    refine Ev_getR rfl (by first | rfl | assumption) hlf ?_
    refine Ev_getR rfl ((ord_q (hR.cl c1L)).1) ((ord_q (hR.cl c1L)).2.1) ?_
    refine Ev_const rfl ?_
    refine Ev_aload rfl rfl rfl ?_
    refine Ev_getR rfl (by first | rfl | assumption) (hρ _ _ _ rfl) ?_
    refine Ev_callV rfl rfl rfl ((ord_q (hR.cl c1L)).2.2) rfl (same_n 402) hwo ?_
    rintro v66 ρ66 σ66 ⟨rfl, e66, f, hf⟩
    obtain rfl := e66.symm
    subst hf
    refine Ev_const rfl ?_
    refine Ev_const rfl ?_
    refine Ev_callS rfl rfl rfl rfl (same_n 402) (t_between _ (lo := 0) (hi := 99) hz (by decide) (by decide)) ?_
    rintro v72 ρ72 σ72 ⟨rfl, e72, g72⟩
    obtain rfl := e72.symm
    obtain rfl := g72.symm
    exact Ev_ireturn rfl rfl rfl rfl ⟨rfl, rfl, c1.tr (c2 f)⟩
  refine T_of rfl ?_
  rcases hq with rfl | rfl
  all_goals
    refine Ev_aload rfl rfl rfl ?_
    refine Ev_getR rfl (by first | rfl | assumption) (hρ _ _ _ rfl) ?_
    refine Ev_const rfl ?_
    refine Ev_aload rfl rfl rfl ?_
    refine Ev_getR rfl (by first | rfl | assumption) hlf ?_
    refine Ev_getR rfl (by first | rfl | assumption) (hρ _ _ _ rfl) ?_
    refine Ev_iload rfl rfl ?_
    refine Ev_iald rfl (by first | rfl | assumption) (vp_in_nI (n := i) (show i < 8 by omega) (by decide)) ?_
    refine Ev_norm (by rw [nI_clamp (by omega)]; exact hdp : _ = nI (dep B i)) ?_
    refine Ev_iast rfl (by first | rfl | assumption) (vp_in_nI (n := 1) (by decide) (by decide)) ?_
    refine Ev_aload rfl rfl rfl ?_
    refine Ev_getR rfl (by first | rfl | assumption) (hρ _ _ _ rfl) ?_
    refine Ev_const rfl ?_
    refine Ev_iload rfl rfl ?_
    refine Ev_iast rfl (by first | rfl | assumption) (vp_in_nI (n := 6) (by decide) (by decide)) ?_
    refine Ev_aload rfl rfl rfl ?_
    refine Ev_getR rfl (by first | rfl | assumption) (hρ _ _ _ rfl) ?_
    refine Ev_const rfl ?_
    refine Ev_aload rfl rfl rfl ?_
    refine Ev_getR rfl (by first | rfl | assumption) hlf ?_
    refine Ev_getR rfl (by first | rfl | assumption) (hρ _ _ _ rfl) ?_
    refine Ev_iload rfl rfl ?_
    refine Ev_iald rfl (by first | rfl | assumption) (vp_in_nI (n := i) (show i < 8 by omega) (by decide)) ?_
    refine Ev_norm (by rw [nI_clamp (by omega)]; exact hne : _ = nI (nee B i)) ?_
    refine Ev_aload rfl rfl rfl ?_
    refine Ev_getI rfl (by first | rfl | assumption) ?_
    refine Ev_norm hkn ?_
    refine Ev_const rfl ?_
    refine Ev_ixor rfl ?_
    refine Ev_iand rfl ?_
    refine Ev_if_ne rfl (fun h45 => ?_) (fun h45 => ?_)
    · refine Ev_const rfl ?_
      refine Ev_iast rfl (by first | rfl | assumption) (vp_in_nI (n := 7) (by decide) (by decide)) ?_
      refine Ev_st rfl (show _ = sI σ 266 (upd (upd (upd (σ.1 266) 1 (nI (dep B i))) 6 (nI v)) 7 0) by rw [sI_sI, sI_sI, sR_0, sR_0]; rfl) ?_
      exact hend _ (fun s s1 s6 s7 => by rw [pk_un s7, pk_un s6, pk_un s1]) (by rw [pk_un (by decide), pk_un (by decide), pk_us]) (by rw [pk_un (by decide), pk_us]) (by rw [pk_us, show rtd B (kset (ni B) row) i = false from decide_eq_false h45]; rfl)
    · refine Ev_const rfl ?_
      refine Ev_goto rfl ?_
      refine Ev_iast rfl (by first | rfl | assumption) (vp_in_nI (n := 7) (by decide) (by decide)) ?_
      refine Ev_st rfl (show _ = sI σ 266 (upd (upd (upd (σ.1 266) 1 (nI (dep B i))) 6 (nI v)) 7 1) by rw [sI_sI, sI_sI, sR_0, sR_0]; rfl) ?_
      exact hend _ (fun s s1 s6 s7 => by rw [pk_un s7, pk_un s6, pk_un s1]) (by rw [pk_un (by decide), pk_un (by decide), pk_us]) (by rw [pk_un (by decide), pk_us]) (by rw [pk_us, show rtd B (kset (ni B) row) i = true from decide_eq_true (Decidable.not_not.mp h45)]; rfl)
/-- the cell of an idea as the formula of a value -/
def plV : Option Nat → Int32
  | none => -1
  | some i => nI i
theorem plV_some (i : Nat) : plV (some i) = nI i := rfl
/-- behind a ducking (or none): all fade, one behind another -/
theorem ps_loop {d : Nat} {r b w h tide : Nat} {x3 x4 x6 : Int32} {row : Nat → Nat} {pl but dk : Int32} (hW : WfN B) (hWt : WfT B) (hWf : WfF B) (hr : RowO r) (h8 : Rw8 B row) (hw9 : w ≤ 9) (hh : h ≤ 2000) (hb : b < nb B) (hbut : ∀ i, i < ni B → ((nI i = pl ∧ ¬ dk = 0) ↔ nI i = but)) (σ0 : St) :
    ∀ (m k : Nat) (σ : St), k + m = ni B → CF (cLr r) σ0 σ → CRd ρ σ q B → Stl σ B row b w h tide → (∀ i, i < 8 → σ.1 r i = nI (if i < k then fadR B row b w h but i else row i)) →
    Ev l X (d + 4) 53 72 [.ref 265, .ref r, .int (nI b), .int x3, .int x4, .int pl, .int x6, .int dk, .int (nI k)] [] 402 402 402 ρ σ (fun v ρ' σ' => v = some (.int dk) ∧ ρ' = ρ ∧ CF (cLr r) σ0 σ' ∧ Stl σ' B row b w h tide ∧ RowR σ' r (fadR B row b w h but)) := by
  have hi8 := hW.1
  intro m
  induction m with
  | zero =>
    intro k σ hk hs hR hst hrow
    have hk : k = ni B := by omega
    subst hk
    refine Ev_iload rfl rfl ?_
    refine Ev_aload rfl rfl rfl ?_
    refine Ev_getR rfl (by first | rfl | assumption) hR.2.2.1 ?_
    refine Ev_getI rfl (by rcases hR.2.1 with rfl | rfl <;> rfl) ?_
    refine Ev_norm hR.2.2.2.1.1 ?_
    refine Ev_icmp_ge rfl (fun h81 => ?_) (fun h81 => absurd (nI_le (Nat.le_refl _) (by omega)) h81)
    refine Ev_iload rfl rfl ?_
    exact Ev_ireturn rfl rfl rfl rfl ⟨rfl, rfl, hs, hst, fun i hi => by
    rw [hrow i hi]
    by_cases hq : i < ni B
    · rw [if_pos hq]
    · rw [if_neg hq, h8.2 i (by omega), fadR_0 (h8.2 i (by omega))]⟩
  | succ m ih =>
    intro k σ hk hs hR hst hrow
    have hrk : σ.1 r k = nI (row k) := by rw [hrow k (by omega), if_neg (Nat.lt_irrefl k)]
    have h99 := h8.1 k
    have nxt : ∀ σ1, CF (cLr r) σ σ1 → Stl σ1 B row b w h tide → σ1.1 r k = nI (fadR B row b w h but k) → (∀ i, i ≠ k → σ1.1 r i = σ.1 r i) →
        Ev l X (d + 4) 53 72 [.ref 265, .ref r, .int (nI b), .int x3, .int x4, .int pl, .int x6, .int dk, .int (nI (k + 1))] [] 402 402 402 ρ σ1 (fun v ρ' σ' => v = some (.int dk) ∧ ρ' = ρ ∧ CF (cLr r) σ0 σ' ∧ Stl σ' B row b w h tide ∧ RowR σ' r (fadR B row b w h but)) := by
      intro σ1 hs1 hst1 hk1 hj1
      refine ih (k + 1) σ1 (by omega) (hs.tr hs1) (hR.cr hr hs1) hst1 (fun i hi => ?_)
      by_cases hik : i = k
      · subst hik; rw [hk1, if_pos (by omega)]
      · rw [hj1 i hik, hrow i hi]
        by_cases hq : i < k
        · rw [if_pos hq, if_pos (by omega)]
        · rw [if_neg hq, if_neg (by omega)]
    refine Ev_iload rfl rfl ?_
    refine Ev_aload rfl rfl rfl ?_
    refine Ev_getR rfl (by first | rfl | assumption) hR.2.2.1 ?_
    refine Ev_getI rfl (by rcases hR.2.1 with rfl | rfl <;> rfl) ?_
    refine Ev_norm hR.2.2.2.1.1 ?_
    refine Ev_icmp_ge rfl (fun h81 => absurd h81 (nI_ge (by omega) (by omega))) (fun h81 => ?_)
    refine Ev_aload rfl rfl rfl ?_
    refine Ev_iload rfl rfl ?_
    refine Ev_iald rfl hr.1 (by rw [hr.2.1]; exact vp_in_nI (n := k) (show k < 8 by omega) (by decide)) ?_
    refine Ev_norm (by rw [nI_clamp (by omega)]; exact hrk : _ = nI (row k)) ?_
    refine Ev_if_le rfl (fun h88 => ?_) (fun h88 => ?_)
    · refine Ev_iincE rfl rfl (nI_1 k) ?_
      refine Ev_goto rfl ?_
      have h0 : row k = 0 := Decidable.byContradiction fun q => absurd h88 (nI_nle (Nat.pos_of_ne_zero q) (by omega))
      exact nxt σ (CF.rf _ _) hst (by rw [hrk, fadR_0 h0, h0]) (fun _ _ => rfl)
    · refine Ev_iload rfl rfl ?_
      refine Ev_iload rfl rfl ?_
      refine Ev_icmp_ne rfl (fun h95 => ?_) (fun h95 => ?_)
      · refine Ev_aload rfl rfl rfl ?_
        refine Ev_iload rfl rfl ?_
        refine Ev_aload rfl rfl rfl ?_
        refine Ev_iload rfl rfl ?_
        refine Ev_aload rfl rfl rfl ?_
        refine Ev_iload rfl rfl ?_
        refine Ev_iald rfl hr.1 (by rw [hr.2.1]; exact vp_in_nI (n := k) (show k < 8 by omega) (by decide)) ?_
        refine Ev_norm (by rw [nI_clamp (by omega)]; exact hrk : _ = nI (row k)) ?_
        refine Ev_callV rfl rfl rfl rfl rfl (same_n 402) (t_fadedTo _ hR hW hWt hWf hst hw9 hh hb (by omega) h99) ?_
        rintro v113 ρ113 σ113 ⟨rfl, e113, hs92⟩
        obtain rfl := e113.symm
        refine Ev_iast rfl hr.1 (by rw [hr.2.1]; exact vp_in_nI (n := k) (show k < 8 by omega) (by decide)) ?_
        rw [nI_clamp (show k < 2 ^ 31 by omega)]
        have c1 : CF (cLr r) σ σ113 := hs92.wk (fun _ _ h => cA_r h)
        have c2 : CF (cLr r) σ113 (sI σ113 r (upd (σ113.1 r) k (nI (fdM B row b w h k (row k))))) := CF.put _ _ (cLr_self r _)
        have st2 : Stl (sI σ113 r (upd (σ113.1 r) k (nI (fdM B row b w h k (row k))))) B row b w h tide := by
          obtain ⟨g1, g2, g3, g4, g5, g6⟩ := hst.ca hs92
          have e1 := sR_1 σ113 (upd (σ113.1 r) k (nI (fdM B row b w h k (row k)))) (Ne.symm hr.2.2.2.2.1)
          have e2 := sR_1 σ113 (upd (σ113.1 r) k (nI (fdM B row b w h k (row k)))) (Ne.symm hr.2.2.2.1)
          exact ⟨by rw [e1]; exact g1, by rw [e1]; exact g2, by rw [e1]; exact g3, by rw [e1]; exact g4, by rw [e1]; exact g5, by rw [e2]; exact g6⟩
        refine Ev_iincE rfl rfl (nI_1 k) ?_
        refine Ev_goto rfl ?_
        have e : fdM B row b w h k (row k) = fadR B row b w h but k := by
          unfold fadR
          rw [if_neg (fun q => q.elim (fun q => h88 (by rw [q]; decide)) (fun q => h95 ((hbut k (by omega)).mpr q).1))]
        exact nxt _ (c1.tr c2) st2 (by rw [sR_0, pk_us, e]) (fun i hi => by rw [sR_0, pk_un hi, hs92.1 r i (hr.ca i)])
      · refine Ev_iload rfl rfl ?_
        refine Ev_if_ne rfl (fun h100 => ?_) (fun h100 => ?_)
        · refine Ev_iincE rfl rfl (nI_1 k) ?_
          refine Ev_goto rfl ?_
          have e : row k = fadR B row b w h but k := by
            unfold fadR
            rw [if_pos (Or.inr ((hbut k (by omega)).mp ⟨Decidable.not_not.mp h95, h100⟩))]
          exact nxt σ (CF.rf _ _) hst (by rw [hrk, ← e]) (fun _ _ => rfl)
        · refine Ev_aload rfl rfl rfl ?_
          refine Ev_iload rfl rfl ?_
          refine Ev_aload rfl rfl rfl ?_
          refine Ev_iload rfl rfl ?_
          refine Ev_aload rfl rfl rfl ?_
          refine Ev_iload rfl rfl ?_
          refine Ev_iald rfl hr.1 (by rw [hr.2.1]; exact vp_in_nI (n := k) (show k < 8 by omega) (by decide)) ?_
          refine Ev_norm (by rw [nI_clamp (by omega)]; exact hrk : _ = nI (row k)) ?_
          refine Ev_callV rfl rfl rfl rfl rfl (same_n 402) (t_fadedTo _ hR hW hWt hWf hst hw9 hh hb (by omega) h99) ?_
          rintro v113 ρ113 σ113 ⟨rfl, e113, hs92⟩
          obtain rfl := e113.symm
          refine Ev_iast rfl hr.1 (by rw [hr.2.1]; exact vp_in_nI (n := k) (show k < 8 by omega) (by decide)) ?_
          rw [nI_clamp (show k < 2 ^ 31 by omega)]
          have c1 : CF (cLr r) σ σ113 := hs92.wk (fun _ _ h => cA_r h)
          have c2 : CF (cLr r) σ113 (sI σ113 r (upd (σ113.1 r) k (nI (fdM B row b w h k (row k))))) := CF.put _ _ (cLr_self r _)
          have st2 : Stl (sI σ113 r (upd (σ113.1 r) k (nI (fdM B row b w h k (row k))))) B row b w h tide := by
            obtain ⟨g1, g2, g3, g4, g5, g6⟩ := hst.ca hs92
            have e1 := sR_1 σ113 (upd (σ113.1 r) k (nI (fdM B row b w h k (row k)))) (Ne.symm hr.2.2.2.2.1)
            have e2 := sR_1 σ113 (upd (σ113.1 r) k (nI (fdM B row b w h k (row k)))) (Ne.symm hr.2.2.2.1)
            exact ⟨by rw [e1]; exact g1, by rw [e1]; exact g2, by rw [e1]; exact g3, by rw [e1]; exact g4, by rw [e1]; exact g5, by rw [e2]; exact g6⟩
          refine Ev_iincE rfl rfl (nI_1 k) ?_
          refine Ev_goto rfl ?_
          have e : fdM B row b w h k (row k) = fadR B row b w h but k := by
            unfold fadR
            rw [if_neg (fun q => q.elim (fun q => h88 (by rw [q]; decide)) (fun q => h100 ((hbut k (by omega)).mpr q).2))]
          exact nxt _ (c1.tr c2) st2 (by rw [sR_0, pk_us, e]) (fun i hi => by rw [sR_0, pk_un hi, hs92.1 r i (hr.ca i)])
end S45
section S45b
variable {l : Launch} {X : Cx} {ρ : Rf} {B : Bh} {q : Nat}
theorem Rw8.upd {row : Nat → Nat} {i v : Nat} (h : Rw8 B row) (hi : i < ni B) (hv : v ≤ 99) : Rw8 B (updN row i v) := ⟨updN_le h.1 hv, fun j hj => by unfold updN; rw [if_neg (by omega)]; exact h.2 j hj⟩
/-- behind settle: the ducking, the fading -/
theorem ps_from (d : Nat) {σ0 σ : St} {r b w h tide : Nat} {x6 : Int32} {row : Nat → Nat} {pl : Option Nat} (hR0 : CRd ρ σ0 q B) (s29 : CF cL σ0 σ) (st8 : Stl σ B row b w h tide) (hW : WfN B) (hWt : WfT B) (hWf : WfF B) (hr : RowO r) (hrow : RowR σ0 r row) (h8 : Rw8 B row) (hw9 : w ≤ 9) (hh : h ≤ 2000) (hb : b < nb B) (hpl : ∀ i, pl = some i → i < ni B ∧ tide ≤ 9) :
    Ev l X (d + 4) 53 32 [.ref 265, .ref r, .int (nI b), .int (nI w), .int (nI h), .int (plV pl), .int x6, .float 0, .float 0] [] 402 402 402 ρ σ (fun v ρ' σ' => v = some (.int (nI (dkB B row b w h tide pl))) ∧ ρ' = ρ ∧ CF (cLr r) σ0 σ' ∧ RowR σ' r (hrB B row b w h tide pl)) := by
  have hi8 := hW.1
  have hb6 := hW.2.1
  have hR := hR0.cl s29
  have z0 : ∀ {pl : Int32} i, i < ni B → ((nI i = pl ∧ ¬ (0 : Int32) = 0) ↔ nI i = -1) := fun i hi => ⟨fun q => absurd rfl q.2, fun q => absurd q (nI_m1 (by omega))⟩
  cases pl with
  | none =>
    refine Ev_const rfl ?_
    refine Ev_istore rfl ?_
    refine Ev_iload rfl rfl ?_
    refine Ev_const rfl ?_
    refine Ev_icmp_eq rfl (fun h38 => ?_) (fun h38 => absurd rfl h38)
    refine Ev_const rfl ?_
    refine Ev_istore rfl ?_
    exact Ev.mono (ps_loop hW hWt hWf hr h8 hw9 hh hb z0 σ0 (ni B) 0 σ (by omega) (s29.wk (fun _ _ h => cL_r h)) hR st8 (fun i hi => by rw [if_neg (Nat.not_lt_zero i), s29.1 r i (hr.cl i)]; exact hrow i hi)) (fun v ρ' σ' hq => ⟨hq.1, hq.2.1, hq.2.2.1, hq.2.2.2.2⟩)
  | some i =>
    have hi := (hpl i rfl).1
    have ht9 := (hpl i rfl).2
    have hkp := kpM_le B row b w h tide i
    refine Ev_const rfl ?_
    refine Ev_istore rfl ?_
    refine Ev_iload rfl rfl ?_
    refine Ev_const rfl ?_
    refine Ev_icmp_eq rfl (fun h38 => absurd h38 (nI_m1 (by omega))) (fun h38 => ?_)
    refine Ev_aload rfl rfl rfl ?_
    refine Ev_iload rfl rfl ?_
    refine Ev_callV rfl rfl rfl rfl rfl (same_n 402) (t_isReady _ hR hW hWt hWf st8 hw9 hh ht9 hb hi) ?_
    rintro v44 ρ44 σ44 ⟨rfl, e44, s44⟩
    obtain rfl := e44.symm
    have s2 : CF cL σ0 σ44 := s29.tr (s44.wk (fun _ _ h => cA0_L h))
    refine Ev_if_eq rfl (fun h47 => ?_) (fun h47 => ?_)
    · refine Ev_const rfl ?_
      refine Ev_istore rfl ?_
      have hrd : rdM B row b w h tide i = false := by cases hq : rdM B row b w h tide i with | false => rfl | true => (rw [hq] at h47; exact absurd h47 (by decide))
      refine Ev.mono (ps_loop hW hWt hWf hr h8 hw9 hh hb z0 σ0 (ni B) 0 σ44 (by omega) (s2.wk (fun _ _ h => cL_r h)) (hR0.cl s2) (st8.ca s44) (fun i hi => by rw [if_neg (Nat.not_lt_zero i), s2.1 r i (hr.cl i)]; exact hrow i hi)) (fun v ρ' σ' hq => ?_)
      rw [dkB_s, hrB_s, hrd]
      exact ⟨hq.1, hq.2.1, hq.2.2.1, hq.2.2.2.2⟩
    · refine Ev_aload rfl rfl rfl ?_
      refine Ev_iload rfl rfl ?_
      refine Ev_callV rfl rfl rfl rfl rfl (same_n 402) (t_strengthBy _ (hR0.cl s2) hW hWt hWf (st8.ca s44) hw9 hh ht9 hb hi) ?_
      rintro v53 ρ53 σ53 ⟨rfl, e53, s53⟩
      obtain rfl := e53.symm
      have s3 : CF cL σ0 σ53 := s2.tr (s53.wk (fun _ _ h => cA0_L h))
      refine Ev_istore rfl ?_
      refine Ev_aload rfl rfl rfl ?_
      refine Ev_iload rfl rfl ?_
      refine Ev_iload rfl rfl ?_
      refine Ev_iast rfl hr.1 (by rw [hr.2.1]; exact vp_in_nI (n := i) (show i < 8 by omega) (by decide)) ?_
      rw [plV_some, nI_clamp (show i < 2 ^ 31 by omega)]
      have s4 : CF (cLr r) σ0 (sI σ53 r (upd (σ53.1 r) i (nI (kpM B row b w h tide i)))) := (s3.wk (fun _ _ h => cL_r h)).tr (CF.put _ _ (cLr_self r _))
      have r4 : RowR (sI σ53 r (upd (σ53.1 r) i (nI (kpM B row b w h tide i)))) r (updN row i (kpM B row b w h tide i)) := fun j hj => by
        rw [sR_0]
        unfold updN
        by_cases hji : j = i
        · rw [if_pos hji, hji, pk_us]
        · rw [if_neg hji, pk_un hji, s3.1 r j (hr.cl j)]; exact hrow j hj
      have st4 : Stl (sI σ53 r (upd (σ53.1 r) i (nI (kpM B row b w h tide i)))) B row b w h tide := by
        obtain ⟨g1, g2, g3, g4, g5, g6⟩ := (st8.ca s44).ca s53
        have e1 := sR_1 σ53 (upd (σ53.1 r) i (nI (kpM B row b w h tide i))) (Ne.symm hr.2.2.2.2.1)
        have e2 := sR_1 σ53 (upd (σ53.1 r) i (nI (kpM B row b w h tide i))) (Ne.symm hr.2.2.2.1)
        exact ⟨by rw [e1]; exact g1, by rw [e1]; exact g2, by rw [e1]; exact g3, by rw [e1]; exact g4, by rw [e1]; exact g5, by rw [e2]; exact g6⟩
      refine Ev_aload rfl rfl rfl ?_
      refine Ev_aload rfl rfl rfl ?_
      refine Ev_callV rfl rfl rfl rfl rfl (same_n 402) (t_count _ hR.1 hW hr r4 (h8.upd hi hkp.2)) ?_
      rintro v66 ρ66 σ66 ⟨rfl, e66, g66⟩
      obtain rfl := e66.symm
      subst g66
      refine Ev_const rfl ?_
      refine Ev_istore rfl ?_
      have hrd := rt_of h47
      refine Ev.mono (ps_loop (but := nI i) hW hWt hWf hr (h8.upd hi hkp.2) hw9 hh hb (fun j hj => ⟨fun q => q.1, fun q => ⟨q, nI_ne0 (by omega) (by omega)⟩⟩) σ0 (ni B) 0 _ (by omega) (s4.tr ((cF_count _ _).wk (fun _ _ h => cL_r h))) ((hR0.cr hr s4).cl (cF_count _ _)) (Stl_count st4) (fun j hj => by rw [if_neg (Nat.not_lt_zero j), (cF_count _ _).1 r j (hr.cl j)]; exact r4 j hj)) (fun v ρ' σ' hq => ?_)
      rw [dkB_s, hrB_s, hrd]
      exact ⟨hq.1, hq.2.1, hq.2.2.1, hq.2.2.2.2⟩
theorem t_pass (d : Nat) {σ : St} {r b w h tide : Nat} {row : Nat → Nat} {pl : Option Nat} (hR : CRd ρ σ q B) (hW : WfN B) (hWt : WfT B) (hWf : WfF B) (hr : RowO r) (hrow : RowR σ r row) (h8 : Rw8 B row) (hw9 : w ≤ 9) (hh : h ≤ 2000) (ht9 : tide ≤ 9) (hb : b < nb B) (hpl : ∀ i, pl = some i → i < ni B) :
    T l X (d + 4) 53 [.ref 265, .ref r, .int (nI b), .int (nI w), .int (nI h), .int (plV pl), .int (nI tide)] 402 402 ρ σ (fun v ρ' σ' => v = some (.int (nI (dkB B row b w h tide pl))) ∧ ρ' = ρ ∧ CF (cLr r) σ σ' ∧ RowR σ' r (hrB B row b w h tide pl)) := by
  have hi8 := hW.1
  cases pl with
  | none =>
    refine T_of rfl ?_
    refine Ev_aload rfl rfl rfl ?_
    refine Ev_aload rfl rfl rfl ?_
    refine Ev_iload rfl rfl ?_
    refine Ev_iload rfl rfl ?_
    refine Ev_iload rfl rfl ?_
    refine Ev_iload rfl rfl ?_
    refine Ev_const rfl ?_
    refine Ev_icmp_eq rfl (fun h9 => ?_) (fun h9 => absurd rfl h9)
    refine Ev_iload rfl rfl ?_
    refine Ev_callV rfl rfl rfl rfl rfl (same_n 402) (t_settle _ hR hW hb hr hrow h8) ?_
    rintro v29 ρ29 σ29 ⟨rfl, e29, s29, st8⟩
    obtain rfl := e29.symm
    exact ps_from d (pl := none) hR s29 st8 hW hWt hWf hr hrow h8 hw9 hh hb (fun i q => by cases q)
  | some i =>
    have hi := hpl i rfl
    refine T_of rfl ?_
    refine Ev_aload rfl rfl rfl ?_
    refine Ev_aload rfl rfl rfl ?_
    refine Ev_iload rfl rfl ?_
    refine Ev_iload rfl rfl ?_
    refine Ev_iload rfl rfl ?_
    refine Ev_iload rfl rfl ?_
    refine Ev_const rfl ?_
    refine Ev_icmp_eq rfl (fun h9 => absurd h9 (nI_m1 (by omega))) (fun h9 => ?_)
    refine Ev_iload rfl rfl ?_
    refine Ev_const rfl ?_
    refine Ev_icmp_ne rfl (fun h15 => ?_) (fun h15 => absurd (nI_m1 (by omega)) h15)
    refine Ev_iload rfl rfl ?_
    refine Ev_callV rfl rfl rfl rfl rfl (same_n 402) (t_settle _ hR hW hb hr hrow h8) ?_
    rintro v29 ρ29 σ29 ⟨rfl, e29, s29, st8⟩
    obtain rfl := e29.symm
    exact ps_from d (pl := some i) hR s29 st8 hW hWt hWf hr hrow h8 hw9 hh hb (fun j q => by cases q; exact ⟨hi, ht9⟩)
/-- an hour ahead: the tide is the one that is told -/
theorem t_passA (d : Nat) {σ : St} {r b w h : Nat} {row : Nat → Nat} {pl : Option Nat} (hR : CRd ρ σ q B) (hW : WfN B) (hWt : WfT B) (hWf : WfF B) (hr : RowO r) (hrow : RowR σ r row) (h8 : Rw8 B row) (hw9 : w ≤ 9) (hh : h ≤ 2000) (hb : b < nb B) (hpl : ∀ i, pl = some i → i < ni B) :
    T l X (d + 4) 53 [.ref 265, .ref r, .int (nI b), .int (nI w), .int (nI h), .int (plV pl), .int (-1)] 402 402 ρ σ (fun v ρ' σ' => (∃ x, v = some (.int x)) ∧ ρ' = ρ ∧ CF (cLr r) σ σ' ∧ RowR σ' r (hrB B row b w h (tdM B h) pl)) := by
  have hi8 := hW.1
  cases pl with
  | none =>
    refine T_of rfl ?_
    refine Ev_aload rfl rfl rfl ?_
    refine Ev_aload rfl rfl rfl ?_
    refine Ev_iload rfl rfl ?_
    refine Ev_iload rfl rfl ?_
    refine Ev_iload rfl rfl ?_
    refine Ev_iload rfl rfl ?_
    refine Ev_const rfl ?_
    refine Ev_icmp_eq rfl (fun h9 => ?_) (fun h9 => absurd rfl h9)
    refine Ev_iload rfl rfl ?_
    refine Ev_norm (show (-1 : Int32) = nI 4294967295 by decide) ?_
    refine Ev_callV rfl rfl rfl rfl rfl (same_n 402) (t_settle _ hR hW hb hr hrow h8) ?_
    rintro v29 ρ29 σ29 ⟨rfl, e29, s29, st8⟩
    obtain rfl := e29.symm
    exact Ev.mono (ps_from d (pl := none) hR s29 st8 hW hWt hWf hr hrow h8 hw9 hh hb (fun i q => by cases q)) (fun v ρ' σ' hq => ⟨⟨_, hq.1⟩, hq.2⟩)
  | some i =>
    have hi := hpl i rfl
    refine T_of rfl ?_
    refine Ev_aload rfl rfl rfl ?_
    refine Ev_aload rfl rfl rfl ?_
    refine Ev_iload rfl rfl ?_
    refine Ev_iload rfl rfl ?_
    refine Ev_iload rfl rfl ?_
    refine Ev_iload rfl rfl ?_
    refine Ev_const rfl ?_
    refine Ev_icmp_eq rfl (fun h9 => absurd h9 (nI_m1 (by omega))) (fun h9 => ?_)
    refine Ev_iload rfl rfl ?_
    refine Ev_const rfl ?_
    refine Ev_icmp_ne rfl (fun h15 => absurd rfl h15) (fun h15 => ?_)
    refine Ev_aload rfl rfl rfl ?_
    refine Ev_iload rfl rfl ?_
    refine Ev_callV rfl rfl rfl rfl rfl (same_n 402) (t_tideAt _ hR hWf hh) ?_
    rintro v21 ρ21 σ21 ⟨rfl, e21, s21, -, -⟩
    obtain rfl := e21.symm
    refine Ev_goto rfl ?_
    refine Ev_callV rfl rfl rfl rfl rfl (same_n 402) (t_settle _ (hR.cl s21) hW hb hr (fun j hj => by rw [s21.1 r j (hr.cl j)]; exact hrow j hj) h8) ?_
    rintro v29 ρ29 σ29 ⟨rfl, e29, s29, st8⟩
    obtain rfl := e29.symm
    exact Ev.mono (ps_from d (pl := some i) hR (s21.tr s29) st8 hW hWt hWf hr hrow h8 hw9 hh hb (fun j q => by cases q; exact ⟨hi, tdM_le B h⟩)) (fun v ρ' σ' hq => ⟨⟨_, hq.1⟩, hq.2⟩)
/-- the plan that a moment at the cell m holds -/
def CPl (σ : St) (m : Nat) (B : Bh) (P : Nat → Nat) : Prop := σ.1 m 2 = nI (np B) ∧ ∀ k, k < np B → σ.1 (m + 8) k = nI (P (2 * k)) ∧ σ.1 (m + 9) k = nI (P (2 * k + 1))
theorem t_plannedFor (d : Nat) {σ : St} {m b h : Nat} {P : Nat → Nat} (hρ : RF ρ) (hm : m = 32 ∨ m = 268) (hW : WfN B) (hP : WfP B P) (hc : CPl σ m B P) (hh : h ≤ 2000) (hb : b < nb B) : T l X d 62 [.ref m, .int (nI b), .int (nI h)] 402 402 ρ σ (Rs (.int (plV (pfM B P h b))) ρ σ) := by
  have h16 := hW.2.2.2.1
  have hb6 := hW.2.1
  by_cases h0 : np B = 0
  · refine T_of rfl ?_
    refine Ev_aload rfl rfl rfl ?_
    refine Ev_getI rfl (by rcases hm with rfl | rfl <;> rfl) ?_
    refine Ev_norm hc.1 ?_
    refine Ev_if_le rfl (fun h4 => ?_) (fun h4 => absurd (show nI (np B) ≤ 0 by rw [h0]; decide) h4)
    refine Ev_const rfl ?_
    exact Ev_ireturn rfl rfl rfl rfl ⟨by unfold pfM; rw [if_pos h0]; rfl, rfl, rfl⟩
  · have hnp := Nat.pos_of_ne_zero h0
    have hr := Nat.mod_lt h hnp
    have c1 := (hc.2 _ hr).1
    have c2 := (hc.2 _ hr).2
    have hl := hP _ hr
    refine T_of rfl ?_
    rcases hm with rfl | rfl
    all_goals
      refine Ev_aload rfl rfl rfl ?_
      refine Ev_getI rfl (by first | rfl | assumption) ?_
      refine Ev_norm hc.1 ?_
      refine Ev_if_le rfl (fun h4 => absurd h4 (nI_nle hnp (by omega))) (fun h4 => ?_)
      refine Ev_iload rfl rfl ?_
      refine Ev_if_ge rfl (fun h8 => ?_) (fun h8 => absurd (nI_pos' (by omega)) h8)
      refine Ev_iload rfl rfl ?_
      refine Ev_aload rfl rfl rfl ?_
      refine Ev_getI rfl (by first | rfl | assumption) ?_
      refine Ev_norm hc.1 ?_
      refine Ev_irem rfl (nI_ne0 hnp (by omega)) ?_
      refine Ev_norm (pk_rem (by omega) hnp (by omega)) ?_
      refine Ev_istore rfl ?_
      refine Ev_aload rfl rfl rfl ?_
      refine Ev_getR rfl (by first | rfl | assumption) (hρ _ _ _ rfl) ?_
      refine Ev_iload rfl rfl ?_
      refine Ev_iald rfl (by first | rfl | assumption) (vp_in_nI (n := h % np B) (show h % np B < 16 by omega) (by decide)) ?_
      refine Ev_norm (by rw [nI_clamp (by omega)]; exact c1 : _ = nI (P (2 * (h % np B)))) ?_
      refine Ev_iload rfl rfl ?_
      refine Ev_icmp_ne rfl (fun h27 => ?_) (fun h27 => ?_)
      · refine Ev_const rfl ?_
        exact Ev_ireturn rfl rfl rfl rfl ⟨by unfold pfM; rw [if_neg h0, if_neg (fun q => h27 (by rw [q]))]; rfl, rfl, rfl⟩
      · refine Ev_aload rfl rfl rfl ?_
        refine Ev_getR rfl (by first | rfl | assumption) (hρ _ _ _ rfl) ?_
        refine Ev_iload rfl rfl ?_
        refine Ev_iald rfl (by first | rfl | assumption) (vp_in_nI (n := h % np B) (show h % np B < 16 by omega) (by decide)) ?_
        refine Ev_norm (by rw [nI_clamp (by omega)]; exact c2 : _ = nI (P (2 * (h % np B) + 1))) ?_
        refine Ev_goto rfl ?_
        exact Ev_ireturn rfl rfl rfl rfl ⟨by unfold pfM; rw [if_neg h0, if_pos ((nI_eq (by omega) (by omega)).mp (Decidable.not_not.mp h27))]; rfl, rfl, rfl⟩
theorem CRd.tide0 {σ σ' : St} (H : CRd ρ σ q B) (hs : CF cL σ σ') : CRd ρ σ' q B := H.cl hs
theorem pfM_i {P : Nat → Nat} {h b : Nat} (hP : WfP B P) : ∀ i, pfM B P h b = some i → i < ni B := fun i hpf => (pfM_ok hP hpf).2.2.2.2
end S45b
