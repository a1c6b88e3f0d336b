/-! A bather is settled; who is ready, by which strength; an hour of one bather: the class. -/
/-- a row of strengths in the class -/
def RowO (r : Nat) : Prop := isA 402 r 0 = true ∧ (shp r).2 = 8 ∧ 31 < r ∧ r ≠ 265 ∧ r ≠ 266 ∧ r < 326
def RowR (σ : St) (r : Nat) (row : Nat → Nat) : Prop := ∀ i, i < 8 → σ.1 r i = nI (row i)
def Rw8 (B : Bh) (row : Nat → Nat) : Prop := (∀ i, row i ≤ 99) ∧ ∀ i, ni B ≤ i → row i = 0
/-- set out for what is asked of a bather with this row -/
def Stl (σ : St) (B : Bh) (row : Nat → Nat) (b w h tide : Nat) : Prop := σ.1 266 0 = nI h ∧ σ.1 266 2 = nI w ∧ σ.1 266 3 = nI (pc (kset (ni B) row)) ∧ σ.1 266 4 = nI (lun B b) ∧ σ.1 266 5 = nI tide ∧ σ.1 265 2 = nI (kset (ni B) row)
/-- the same but for what the depth, the strength, the roots seen, the piles leave -/
def cA0 (k j : Nat) : Bool := Nat.beq k 16 || Nat.beq k 31 || (Nat.beq k 266 && (Nat.beq j 1 || Nat.beq j 6 || Nat.beq j 7))
theorem cA0_L {k j : Nat} (h : cL k j = false) : cA0 k j = false := by
  unfold cL at h
  unfold cA0
  simp only [Bool.or_eq_false_iff] at h
  rw [h.1.1.1, h.1.1.2]
  have h4 := h.2
  cases hk : Nat.beq k 266
  · rfl
  · rw [hk] at h4
    simp only [Bool.true_and, Bool.not_eq_false'] at h4
    rw [Nat.eq_of_beq_eq_true h4]; rfl
theorem Stl.ca {σ σ' : St} {B : Bh} {row : Nat → Nat} {b w h tide : Nat} (H : Stl σ B row b w h tide) (hs : CF cA0 σ σ') : Stl σ' B row b w h tide := by
  obtain ⟨h1, h2, h3, h4, h5, h6⟩ := H
  exact ⟨by rw [hs.1 266 0 rfl]; exact h1, by rw [hs.1 266 2 rfl]; exact h2, by rw [hs.1 266 3 rfl]; exact h3, by rw [hs.1 266 4 rfl]; exact h4, by rw [hs.1 266 5 rfl]; exact h5, by rw [hs.1 265 _ rfl]; exact h6⟩
section S44
variable {l : Launch} {X : Cx} {ρ : Rf} {σ : St} {B : Bh} {q : Nat}
theorem bk_loop {d r : Nat} {row : Nat → Nat} (hr : RowO r) (hrow : RowR σ r row) (h99 : ∀ i, row i ≤ 99) : ∀ (m k : Nat), k + m = 8 → Ev l X (d + 1) 158 4 [.ref r, .int (nI (kset k row)), .int (nI k)] [] 402 402 402 ρ σ (Rs (.int (nI (kset 8 row))) ρ σ) := by
  intro m
  induction m with
  | zero =>
    intro k hk
    have hk : k = 8 := by omega
    subst hk
    refine Ev_iload rfl rfl ?_
    refine Ev_aload rfl rfl rfl ?_
    refine Ev_alen rfl (by rw [show Nat.blt r 402 = true from Nat.blt_eq.mpr (by have := hr.2.2.2.2.2; omega), (isA_lt hr.1).2]; rfl) ?_
    refine Ev_norm (by rw [hr.2.1]; rfl : _ = nI 8) ?_
    refine Ev_icmp_ge rfl (fun h7 => ?_) (fun h7 => absurd (by decide) h7)
    refine Ev_iload rfl rfl ?_
    exact Ev_ireturn rfl rfl rfl rfl ⟨rfl, rfl, rfl⟩
  | succ m ih =>
    intro k hk
    refine Ev_iload rfl rfl ?_
    refine Ev_aload rfl rfl rfl ?_
    refine Ev_alen rfl (by rw [show Nat.blt r 402 = true from Nat.blt_eq.mpr (by have := hr.2.2.2.2.2; omega), (isA_lt hr.1).2]; rfl) ?_
    refine Ev_norm (by rw [hr.2.1]; rfl : _ = nI 8) ?_
    refine Ev_icmp_ge rfl (fun h7 => absurd h7 (nI_ge (b := 8) (by omega) (by decide))) (fun h7 => ?_)
    refine Ev_aload rfl rfl rfl ?_
    refine Ev_iload rfl rfl ?_
    refine Ev_iald rfl hr.1 (by rw [hr.2.1]; exact vp_in_nI (n := k) (show k < 8 by omega) (by decide)) ?_
    refine Ev_norm (by rw [nI_clamp (by omega)]; exact hrow k (by omega) : _ = nI (row k)) ?_
    refine Ev_if_le rfl (fun h13 => ?_) (fun h13 => ?_)
    · refine Ev_iincE rfl rfl (nI_1 k) ?_
      refine Ev_goto rfl ?_
      have e : kset (k + 1) row = kset k row := by
        show kset k row + (if 0 < row k then 2 ^ k else 0) = _
        rw [if_neg (fun q => nI_nle q (by have := h99 k; omega) h13)]
        rfl
      have := ih (k + 1) (by omega)
      rw [e] at this
      exact this
    · refine Ev_iload rfl rfl ?_
      refine Ev_const rfl ?_
      refine Ev_iload rfl rfl ?_
      refine Ev_ishl rfl ?_
      refine Ev_ior rfl ?_
      refine Ev_norm (set_bit (kset_lt k row) (by omega)) ?_
      refine Ev_istore rfl ?_
      refine Ev_iincE rfl rfl (nI_1 k) ?_
      refine Ev_goto rfl ?_
      have e : kset (k + 1) row = kset k row + 2 ^ k := by
        show kset k row + (if 0 < row k then 2 ^ k else 0) = _
        rw [if_pos (Nat.pos_of_ne_zero (fun q => h13 (by rw [q]; decide)))]
      have := ih (k + 1) (by omega)
      rw [e] at this
      exact this
theorem t_bitsKnown (d : Nat) {r : Nat} {row : Nat → Nat} (hr : RowO r) (hrow : RowR σ r row) (h99 : ∀ i, row i ≤ 99) : T l X (d + 1) 158 [.ref r] 402 402 ρ σ (Rs (.int (nI (kset 8 row))) ρ σ) := by
  refine T_of rfl ?_
  refine Ev_const rfl ?_
  refine Ev_istore rfl ?_
  refine Ev_const rfl ?_
  refine Ev_istore rfl ?_
  exact bk_loop hr hrow h99 8 0 rfl
theorem kset_8 {B : Bh} {row : Nat → Nat} (hW : WfN B) (hr : Rw8 B row) : kset 8 row = kset (ni B) row := kset_zero hr.2 hW.1
theorem t_count (d : Nat) {r : Nat} {row : Nat → Nat} (hρ : RF ρ) (hW : WfN B) (hr : RowO r) (hrow : RowR σ r row) (h8 : Rw8 B row) : T l X (d + 2) 49 [.ref 265, .ref r] 402 402 ρ σ (fun v ρ' σ' => v = none ∧ ρ' = ρ ∧ σ' = sI (sI σ 265 (upd (σ.1 265) 2 (nI (kset (ni B) row)))) 266 (upd (σ.1 266) 3 (nI (pc (kset (ni B) row))))) := by
  have hk := ks_256 (f := row) hW.1
  refine T_of rfl ?_
  refine Ev_aload rfl rfl rfl ?_
  refine Ev_aload rfl rfl rfl ?_
  refine Ev_callS rfl rfl rfl rfl (same_n 402) (t_bitsKnown _ hr hrow h8.1) ?_
  rintro v2 ρ2 σ2 ⟨rfl, e2, g2⟩
  obtain rfl := e2.symm
  obtain rfl := g2.symm
  refine Ev_norm (by rw [kset_8 hW h8] : _ = nI (kset (ni B) row)) ?_
  refine Ev_putI rfl (by first | rfl | assumption) ⟨rfl, rfl⟩ rfl ?_
  refine Ev_aload rfl rfl rfl ?_
  refine Ev_getR rfl (by first | rfl | assumption) (hρ _ _ _ rfl) ?_
  refine Ev_const rfl ?_
  refine Ev_aload rfl rfl rfl ?_
  refine Ev_getI rfl (by first | rfl | assumption) ?_
  refine Ev_norm (by rw [sR_0]; exact pk_us : _ = nI (kset (ni B) row)) ?_
  refine Ev_callS rfl rfl rfl rfl (same_n 402) (t_bitCount _ _) ?_
  rintro v17 ρ17 σ17 ⟨rfl, e17, g17⟩
  obtain rfl := e17.symm
  obtain rfl := g17.symm
  refine Ev_norm (pc_bit _ hk) ?_
  refine Ev_iast rfl (by first | rfl | assumption) (vp_in_nI (n := 3) (by decide) (by decide)) ?_
  exact Ev_return rfl rfl rfl ⟨rfl, rfl, by rw [sR_1 _ _ (by decide)]; rfl⟩
/-- behind it he is settled -/
theorem Stl_count {row row' : Nat → Nat} {b w h tide : Nat} (H : Stl σ B row' b w h tide) : Stl (sI (sI σ 265 (upd (σ.1 265) 2 (nI (kset (ni B) row)))) 266 (upd (σ.1 266) 3 (nI (pc (kset (ni B) row))))) B row b w h tide := by
  obtain ⟨h1, h2, -, h4, h5, -⟩ := H
  refine ⟨?_, ?_, ?_, ?_, ?_, ?_⟩
  · rw [sR_0, pk_un (by decide)]; exact h1
  · rw [sR_0, pk_un (by decide)]; exact h2
  · rw [sR_0, pk_us]
  · rw [sR_0, pk_un (by decide)]; exact h4
  · rw [sR_0, pk_un (by decide)]; exact h5
  · rw [sR_1 _ _ (by decide), sR_0, pk_us]
theorem cF_count (a b : Int32) : CF cL σ (sI (sI σ 265 (upd (σ.1 265) 2 a)) 266 (upd (σ.1 266) 3 b)) := by
  have h1 : CF cL σ (sI σ 265 (upd (σ.1 265) 2 a)) := CF.cell σ _ (fun _ => rfl)
  have h2 := cF_seen (σ := sI σ 265 (upd (σ.1 265) 2 a)) (s := 3) b (by decide)
  rw [sR_1 σ _ (by decide)] at h2
  exact h1.tr h2
theorem t_settle (d : Nat) {r b w h tide : Nat} {row : Nat → Nat} (hR : CRd ρ σ q B) (hW : WfN B) (hb : b < nb B) (hr : RowO r) (hrow : RowR σ r row) (h8 : Rw8 B row) :
    T l X (d + 3) 48 [.ref 265, .ref r, .int (nI b), .int (nI w), .int (nI h), .int (nI tide)] 402 402 ρ σ (fun v ρ' σ' => v = none ∧ ρ' = ρ ∧ CF cL σ σ' ∧ Stl σ' B row b w h tide) := by
  have hρ := hR.1
  have hq := hR.2.1
  have hlf := hR.2.2.1
  have h6 := hW.2.1
  have hlun := (hR.2.2.2.2.1.2 b hb).1
  have c1 : CF cL σ (sI σ 266 (upd (σ.1 266) 0 (nI h))) := cF_seen _ (by decide)
  have c2 := c1.tr (cF_seen (σ := sI σ 266 (upd (σ.1 266) 0 (nI h))) (s := 5) (nI tide) (by decide))
  rw [sI_sI, sR_0] at c2
  have c3 := c2.tr (cF_seen (σ := sI σ 266 (upd (upd (σ.1 266) 0 (nI h)) 5 (nI tide))) (s := 2) (nI w) (by decide))
  rw [sI_sI, sR_0] at c3
  have c4 := c3.tr (cF_seen (σ := sI σ 266 (upd (upd (upd (σ.1 266) 0 (nI h)) 5 (nI tide)) 2 (nI w))) (s := 4) (nI (lun B b)) (by decide))
  rw [sI_sI, sR_0] at c4
  refine T_of rfl ?_
  rcases hq with rfl | rfl
  all_goals
    refine Ev_aload rfl rfl rfl ?_
    refine Ev_getR rfl (by first | rfl | assumption) (hρ _ _ _ rfl) ?_
    refine Ev_const rfl ?_
    refine Ev_iload rfl rfl ?_
    refine Ev_iast rfl (by first | rfl | assumption) (vp_in_nI (n := 0) (by decide) (by decide)) ?_
    refine Ev_aload rfl rfl rfl ?_
    refine Ev_getR rfl (by first | rfl | assumption) (hρ _ _ _ rfl) ?_
    refine Ev_const rfl ?_
    refine Ev_iload rfl rfl ?_
    refine Ev_iast rfl (by first | rfl | assumption) (vp_in_nI (n := 5) (by decide) (by decide)) ?_
    refine Ev_aload rfl rfl rfl ?_
    refine Ev_getR rfl (by first | rfl | assumption) (hρ _ _ _ rfl) ?_
    refine Ev_const rfl ?_
    refine Ev_iload rfl rfl ?_
    refine Ev_iast rfl (by first | rfl | assumption) (vp_in_nI (n := 2) (by decide) (by decide)) ?_
    refine Ev_aload rfl rfl rfl ?_
    refine Ev_getR rfl (by first | rfl | assumption) (hρ _ _ _ rfl) ?_
    refine Ev_const rfl ?_
    refine Ev_aload rfl rfl rfl ?_
    refine Ev_getR rfl (by first | rfl | assumption) hlf ?_
    refine Ev_getR rfl (by first | rfl | assumption) (hρ _ _ _ rfl) ?_
    refine Ev_iload rfl rfl ?_
    refine Ev_iald rfl (by first | rfl | assumption) (vp_in_nI (n := b) (show b < 6 by omega) (by decide)) ?_
    refine Ev_norm (by rw [nI_clamp (by omega), sR_1 _ _ (by decide), sR_1 _ _ (by decide), sR_1 _ _ (by decide)]; exact hlun : _ = nI (lun B b)) ?_
    refine Ev_iast rfl (by first | rfl | assumption) (vp_in_nI (n := 4) (by decide) (by decide)) ?_
    refine Ev_st rfl (show _ = sI σ 266 (upd (upd (upd (upd (σ.1 266) 0 (nI h)) 5 (nI tide)) 2 (nI w)) 4 (nI (lun B b))) by rw [sI_sI, sI_sI, sI_sI, sR_0, sR_0, sR_0]; rfl) ?_
    refine Ev_aload rfl rfl rfl ?_
    refine Ev_aload rfl rfl rfl ?_
    refine Ev_callV rfl rfl rfl rfl rfl (same_n 402) (t_count _ hρ hW hr (row := row) (fun i hi => by rw [sR_1 _ _ hr.2.2.2.2.1]; exact hrow i hi) h8) ?_
    rintro v40 ρ40 σ40 ⟨rfl, e40, g40⟩
    obtain rfl := e40.symm
    subst g40
    exact Ev_return rfl rfl rfl ⟨rfl, rfl, c4.tr (cF_count _ _), by
    refine ⟨?_, ?_, ?_, ?_, ?_, ?_⟩
    · rw [sR_0, pk_un (by decide), sR_0, pk_un (by decide), pk_un (by decide), pk_un (by decide), pk_us]
    · rw [sR_0, pk_un (by decide), sR_0, pk_un (by decide), pk_us]
    · rw [sR_0, pk_us]
    · rw [sR_0, pk_un (by decide), sR_0, pk_us]
    · rw [sR_0, pk_un (by decide), sR_0, pk_un (by decide), pk_un (by decide), pk_us]
    · rw [sR_1 _ _ (by decide), sR_0, pk_us]⟩
/-- how kinds 1, 2, 3 see a settled bather -/
theorem see_stl {row : Nat → Nat} {b w h tide i k : Nat} (H : Stl σ B row b w h tide) (hk : k = 1 ∨ k = 3) (h1 : σ.1 266 1 = nI (dep B i)) (s : Nat) (hs : s < 9) (ho : sOk k s = true) : σ.1 266 s = iI ((seeF B row b w h tide i 0 0 s : Nat) : Int) := by
  obtain ⟨g1, g2, g3, g4, g5, g6⟩ := H
  match s, hs, ho with
  | 0, _, _ => exact g1
  | 1, _, _ => exact h1
  | 2, _, _ => exact g2
  | 3, _, _ => exact g3
  | 4, _, _ => exact g4
  | 5, _, _ => exact g5
  | 6, _, ho => exact absurd (so_6 k (by omega) ho) (by omega)
  | 7, _, ho => exact absurd (so_7 k (by omega) ho) (by omega)
  | 8, _, ho => rcases hk with rfl | rfl <;> exact absurd ho (by decide)
theorem cF_dep (x : Int32) : CF cA0 σ (sI σ 266 (upd (σ.1 266) 1 x)) := CF.put σ x rfl
theorem cF_pile0 (hq : q = 2 ∨ q = 17) (f : Nat → Int32) : CF cA0 σ (sI σ (q + 14) f) := by
  rcases hq with rfl | rfl
  · exact CF.cell σ f (fun _ => rfl)
  · exact CF.cell σ f (fun _ => rfl)
theorem bI_dec {z : Int} (hz : Bd z) : (¬ iI z = 0) ↔ ¬ z = 0 := by
  constructor
  · intro h q; exact h (by rw [q]; rfl)
  · intro h q
    apply h
    have := z_iI hz
    rw [q] at this
    exact this.symm
theorem t_isReady (d : Nat) {b w h tide i : Nat} {row : Nat → Nat} (hR : CRd ρ σ q B) (hW : WfN B) (hWt : WfT B) (hWf : WfF B) (H : Stl σ B row b w h tide) (hw9 : w ≤ 9) (hh : h ≤ 2000) (ht9 : tide ≤ 9) (hb : b < nb B) (hi : i < ni B) :
    T l X (d + 3) 50 [.ref 265, .int (nI i)] 402 402 ρ σ (fun v ρ' σ' => v = some (.int (bI (rdM B row b w h tide i))) ∧ ρ' = ρ ∧ CF cA0 σ σ') := by
  have hρ := hR.1
  have hq := hR.2.1
  have hlf := hR.2.2.1
  have h8 := hW.1
  have hd9 := (hWt.1 i hi).1
  have hdp := (hR.2.2.2.2.1.1 i hi).1
  have hne := (hR.2.2.2.2.1.1 i hi).2
  have htd : σ.1 266 5 = nI tide := H.2.2.2.2.1
  have hkn : σ.1 265 2 = nI (kset (ni B) row) := H.2.2.2.2.2
  have c1 : CF cA0 σ (sI σ 266 (upd (σ.1 266) 1 (nI (dep B i)))) := cF_dep _
  have c1L : CF cL σ (sI σ 266 (upd (σ.1 266) 1 (nI (dep B i)))) := c1.wk (fun _ _ h => cA0_L h)
  have hBd : ∀ s, s < 9 → sOk 3 s = true → Bd ((seeF B row b w h tide i 0 0 s : Nat) : Int) := fun s hs ho => seeBd hWt hw9 hh ht9 (by decide) (by decide) (fun _ => hb) hW.2.1 (fun _ => hi) hs ho
  have hz := evF_ok (cod_ok hWf (k := 3) (by decide)).choose_spec hBd (fun q => absurd q (by decide))
  have c2 : ∀ f, CF cA0 (sI σ 266 (upd (σ.1 266) 1 (nI (dep B i)))) (sI (sI σ 266 (upd (σ.1 266) 1 (nI (dep B i)))) (q + 14) f) := cF_pile0 hq
  have hwo := t_worth (l := l) (X := X) d (hR.cl c1L) hWf (k := 3) (by decide) (see := fun s => ((seeF B row b w h tide i 0 0 s : Nat) : Int)) (see_stl (H.ca c1) (Or.inr rfl) (by rw [sR_0]; exact pk_us)) hBd
  refine T_of rfl ?_
  rcases hq with rfl | rfl
  all_goals
    refine Ev_aload rfl rfl rfl ?_
    refine Ev_getR rfl (by first | rfl | assumption) hlf ?_
    refine Ev_getR rfl (by first | rfl | assumption) (hρ _ _ _ rfl) ?_
    refine Ev_iload rfl rfl ?_
    refine Ev_iald rfl (by first | rfl | assumption) (vp_in_nI (n := i) (show i < 8 by omega) (by decide)) ?_
    refine Ev_norm (by rw [nI_clamp (by omega)]; exact hdp : _ = nI (dep B i)) ?_
    refine Ev_aload rfl rfl rfl ?_
    refine Ev_getR rfl (by first | rfl | assumption) (hρ _ _ _ rfl) ?_
    refine Ev_const rfl ?_
    refine Ev_iald rfl (by first | rfl | assumption) (vp_in_nI (n := 5) (by decide) (by decide)) ?_
    refine Ev_norm htd ?_
    refine Ev_icmp_gt rfl (fun h15 => ?_) (fun h15 => ?_)
    · refine Ev_const rfl ?_
      exact Ev_ireturn rfl rfl rfl rfl ⟨by
      have h15' := (nI_ltI (by omega) (by omega)).mp h15
      unfold rdM
      rw [decide_eq_false (by omega)]
      rfl, rfl, CF.rf _ _⟩
    · refine Ev_aload rfl rfl rfl ?_
      refine Ev_getR rfl (by first | rfl | assumption) hlf ?_
      refine Ev_getR rfl (by first | rfl | assumption) (hρ _ _ _ rfl) ?_
      refine Ev_iload rfl rfl ?_
      refine Ev_iald rfl (by first | rfl | assumption) (vp_in_nI (n := i) (show i < 8 by omega) (by decide)) ?_
      refine Ev_norm (by rw [nI_clamp (by omega)]; exact hne : _ = nI (nee B i)) ?_
      refine Ev_aload rfl rfl rfl ?_
      refine Ev_getI rfl (by first | rfl | assumption) ?_
      refine Ev_norm hkn ?_
      refine Ev_const rfl ?_
      refine Ev_ixor rfl ?_
      refine Ev_iand rfl ?_
      refine Ev_if_eq rfl (fun h34 => ?_) (fun h34 => ?_)
      · refine Ev_aload rfl rfl rfl ?_
        refine Ev_getR rfl (by first | rfl | assumption) (hρ _ _ _ rfl) ?_
        refine Ev_const rfl ?_
        refine Ev_aload rfl rfl rfl ?_
        refine Ev_getR rfl (by first | rfl | assumption) hlf ?_
        refine Ev_getR rfl (by first | rfl | assumption) (hρ _ _ _ rfl) ?_
        refine Ev_iload rfl rfl ?_
        refine Ev_iald rfl (by first | rfl | assumption) (vp_in_nI (n := i) (show i < 8 by omega) (by decide)) ?_
        refine Ev_norm (by rw [nI_clamp (by omega)]; exact hdp : _ = nI (dep B i)) ?_
        refine Ev_iast rfl (by first | rfl | assumption) (vp_in_nI (n := 1) (by decide) (by decide)) ?_
        refine Ev_aload rfl rfl rfl ?_
        refine Ev_getR rfl (by first | rfl | assumption) hlf ?_
        refine Ev_getR rfl (by first | rfl | assumption) (hρ _ _ _ rfl) ?_
        refine Ev_const rfl ?_
        refine Ev_aload rfl rfl rfl ?_
        refine Ev_getR rfl (by first | rfl | assumption) (hρ _ _ _ rfl) ?_
        refine Ev_callV rfl rfl rfl rfl rfl (same_n 402) hwo ?_
        rintro v66 ρ66 σ66 ⟨rfl, e66, f, hf⟩
        obtain rfl := e66.symm
        subst hf
        refine Ev_if_eq rfl (fun h69 => ?_) (fun h69 => ?_)
        · refine Ev_const rfl ?_
          exact Ev_ireturn rfl rfl rfl rfl ⟨by
          have h0 : evF (fun s => ((seeF B row b w h tide i 0 0 s : Nat) : Int)) (cod B 3) = 0 := Decidable.byContradiction fun q => ((bI_dec hz.1).mpr q) h69
          unfold rdM
          simp only [h0, decide_true, Bool.not_true, Bool.and_false]
          rfl, rfl, c1.tr (c2 f)⟩
        · refine Ev_const rfl ?_
          refine Ev_goto rfl ?_
          exact Ev_ireturn rfl rfl rfl rfl ⟨by
          have h15' : dep B i ≤ tide := Nat.le_of_not_lt (fun q => h15 ((nI_ltI (by omega) (by omega)).mpr q))
          have h1 := (bI_dec hz.1).mp h69
          have e : rtd B (kset (ni B) row) i = true := decide_eq_true h34
          unfold rdM
          rw [e, decide_eq_true h15', decide_eq_false h1]
          rfl, rfl, c1.tr (c2 f)⟩
      · refine Ev_const rfl ?_
        exact Ev_ireturn rfl rfl rfl rfl ⟨by
        have e : rtd B (kset (ni B) row) i = false := decide_eq_false h34
        unfold rdM
        rw [e, Bool.false_and, Bool.and_false]
        rfl, rfl, CF.rf _ _⟩
theorem t_strengthBy (d : Nat) {b w h tide i : Nat} {row : Nat → Nat} (hR : CRd ρ σ q B) (hW : WfN B) (hWt : WfT B) (hWf : WfF B) (H : Stl σ B row b w h tide) (hw9 : w ≤ 9) (hh : h ≤ 2000) (ht9 : tide ≤ 9) (hb : b < nb B) (hi : i < ni B) :
    T l X (d + 3) 52 [.ref 265, .int (nI i)] 402 402 ρ σ (fun v ρ' σ' => v = some (.int (nI (kpM B row b w h tide i))) ∧ ρ' = ρ ∧ CF cA0 σ σ') := by
  have hρ := hR.1
  have hq := hR.2.1
  have hlf := hR.2.2.1
  have h8 := hW.1
  have hdp := (hR.2.2.2.2.1.1 i hi).1
  have c1 : CF cA0 σ (sI σ 266 (upd (σ.1 266) 1 (nI (dep B i)))) := cF_dep _
  have c1L : CF cL σ (sI σ 266 (upd (σ.1 266) 1 (nI (dep B i)))) := c1.wk (fun _ _ h => cA0_L h)
  have hBd : ∀ s, s < 9 → sOk 1 s = true → Bd ((seeF B row b w h tide i 0 0 s : Nat) : Int) := fun s hs ho => seeBd hWt hw9 hh ht9 (by decide) (by decide) (fun _ => hb) hW.2.1 (fun _ => hi) hs ho
  have hz := evF_ok (cod_ok hWf (k := 1) (by decide)).choose_spec hBd (fun q => absurd q (by decide))
  have c2 : ∀ f, CF cA0 (sI σ 266 (upd (σ.1 266) 1 (nI (dep B i)))) (sI (sI σ 266 (upd (σ.1 266) 1 (nI (dep B i)))) (q + 14) f) := cF_pile0 hq
  have hwo := t_worth (l := l) (X := X) d (hR.cl c1L) hWf (k := 1) (by decide) (see := fun s => ((seeF B row b w h tide i 0 0 s : Nat) : Int)) (see_stl (H.ca c1) (Or.inl rfl) (by rw [sR_0]; exact pk_us)) hBd
  refine T_of rfl ?_
  rcases hq with rfl | rfl
  all_goals
    refine Ev_aload rfl rfl rfl ?_
    refine Ev_getR rfl (by first | rfl | assumption) (hρ _ _ _ rfl) ?_
    refine Ev_const rfl ?_
    refine Ev_aload rfl rfl rfl ?_
    refine Ev_getR rfl (by first | rfl | assumption) hlf ?_
    refine Ev_getR rfl (by first | rfl | assumption) (hρ _ _ _ rfl) ?_
    refine Ev_iload rfl rfl ?_
    refine Ev_iald rfl (by first | rfl | assumption) (vp_in_nI (n := i) (show i < 8 by omega) (by decide)) ?_
    refine Ev_norm (by rw [nI_clamp (by omega)]; exact hdp : _ = nI (dep B i)) ?_
    refine Ev_iast rfl (by first | rfl | assumption) (vp_in_nI (n := 1) (by decide) (by decide)) ?_
    refine Ev_aload rfl rfl rfl ?_
    refine Ev_getR rfl (by first | rfl | assumption) hlf ?_
    refine Ev_getR rfl (by first | rfl | assumption) (hρ _ _ _ rfl) ?_
    refine Ev_const rfl ?_
    refine Ev_aload rfl rfl rfl ?_
    refine Ev_getR rfl (by first | rfl | assumption) (hρ _ _ _ rfl) ?_
    refine Ev_callV rfl rfl rfl rfl rfl (same_n 402) hwo ?_
    rintro v27 ρ27 σ27 ⟨rfl, e27, f, hf⟩
    obtain rfl := e27.symm
    subst hf
    refine Ev_const rfl ?_
    refine Ev_const rfl ?_
    refine Ev_callS rfl rfl rfl rfl (same_n 402) (t_between _ (lo := 1) (hi := 99) hz.1 (by decide) (by decide)) ?_
    rintro v33 ρ33 σ33 ⟨rfl, e33, g33⟩
    obtain rfl := e33.symm
    obtain rfl := g33.symm
    exact Ev_ireturn rfl rfl rfl rfl ⟨rfl, rfl, c1.tr (c2 f)⟩
end S44
