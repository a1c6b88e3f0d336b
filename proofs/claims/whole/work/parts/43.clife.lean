/-! What an hour does: the class's cells, its formulas' worth, the tide. -/
/-- how an array of cells was changed: all but C are the same -/
def CF (C : Nat → Nat → Bool) (σ σ' : St) : Prop := (∀ k j, C k j = false → σ'.1 k j = σ.1 k j) ∧ σ'.2 = σ.2
theorem CF.rf (C : Nat → Nat → Bool) (σ : St) : CF C σ σ := ⟨fun _ _ _ => rfl, rfl⟩
theorem CF.tr {C : Nat → Nat → Bool} {σ σ' σ'' : St} (h : CF C σ σ') (h2 : CF C σ' σ'') : CF C σ σ'' := ⟨fun k j hj => (h2.1 k j hj).trans (h.1 k j hj), h2.2.trans h.2⟩
theorem CF.wk {C C' : Nat → Nat → Bool} {σ σ' : St} (h : CF C σ σ') (hC : ∀ k j, C' k j = false → C k j = false) : CF C' σ σ' := ⟨fun k j hj => h.1 k j (hC k j hj), h.2⟩
theorem CF.put {C : Nat → Nat → Bool} (σ : St) {k j : Nat} (x : Int32) (h : C k j = true) : CF C σ (sI σ k (upd (σ.1 k) j x)) := by
  refine ⟨fun k' j' hj => ?_, rfl⟩
  by_cases hk : k' = k
  · subst hk
    rw [sR_0, pk_un (fun q => by rw [q, h] at hj; cases hj)]
  · rw [sR_1 _ _ hk]
theorem CF.cell {C : Nat → Nat → Bool} (σ : St) {k : Nat} (f : Nat → Int32) (h : ∀ j, C k j = true) : CF C σ (sI σ k f) := by
  refine ⟨fun k' j' hj => ?_, rfl⟩
  by_cases hk : k' = k
  · subst hk; rw [h j'] at hj; cases hj
  · rw [sR_1 _ _ hk]
/-- Life's own cells: the piles, what is known, what is seen -/
def cL (k j : Nat) : Bool := Nat.beq k 16 || Nat.beq k 31 || Nat.beq k 265 || (Nat.beq k 266 && !(Nat.beq j 9))
/-- the formulas of a beach that stands at the cell q -/
def CFrm (σ : St) (q : Nat) (B : Bh) : Prop := ∀ k, k < 4 → ∃ a b, σ.1 (q + 12) k = nI a ∧ σ.1 (q + 13) k = nI b ∧ a + (cod B k).length = b ∧ b ≤ 1620 ∧ ∀ j, j < (cod B k).length → σ.1 (q + 11) (a + j) = nI (cc ((cod B k).getD j 0))
def CTab (σ : St) (q : Nat) (B : Bh) : Prop := (∀ i, i < ni B → σ.1 (q + 2) i = nI (dep B i) ∧ σ.1 (q + 3) i = nI (nee B i)) ∧ ∀ b, b < nb B → σ.1 (q + 6) b = nI (lun B b) ∧ σ.1 (q + 7) b = nI (wit B b)
def CNum (σ : St) (q : Nat) (B : Bh) : Prop := σ.1 q 10 = nI (ni B) ∧ σ.1 q 11 = nI (nn B) ∧ σ.1 q 12 = nI (nb B) ∧ σ.1 q 13 = nI (np B) ∧ σ.1 q 14 = nI (sq B)
/-- what Life reads: at q the beach; how the ideas seen as ready stand -/
def CRd (ρ : Rf) (σ : St) (q : Nat) (B : Bh) : Prop := RF ρ ∧ (q = 2 ∨ q = 17) ∧ ρ 265 1 = some q ∧ CNum σ q B ∧ CTab σ q B ∧ CFrm σ q B ∧ ∃ R, R < 256 ∧ σ.1 266 9 = nI R
/-- cells of a beach -/
def cB (k : Nat) : Bool := Nat.blt 1 k && Nat.blt k 32 && !(Nat.beq k 16) && !(Nat.beq k 31)
theorem CRd.cf {C : Nat → Nat → Bool} {ρ : Rf} {σ σ' : St} {q : Nat} {B : Bh} (H : CRd ρ σ q B) (hs : CF C σ σ') (hC : ∀ k j, cB k = true → C k j = false) (h9 : C 266 9 = false) : CRd ρ σ' q B := by
  obtain ⟨h1, h2, h3, h4, h5, h6, R, h7, h8⟩ := H
  have e : ∀ k j, cB k = true → σ'.1 k j = σ.1 k j := fun k j hk => hs.1 k j (hC k j hk)
  have eq : ∀ r j, r < 15 → r ≠ 14 → σ'.1 (q + r) j = σ.1 (q + r) j := by
    intro r j hr hr2
    refine e _ _ ?_
    unfold cB
    rcases h2 with rfl | rfl
    · rw [show Nat.blt 1 (2 + r) = true from Nat.blt_eq.mpr (by omega), show Nat.blt (2 + r) 32 = true from Nat.blt_eq.mpr (by omega), nbeq (by omega), nbeq (by omega)]; rfl
    · rw [show Nat.blt 1 (17 + r) = true from Nat.blt_eq.mpr (by omega), show Nat.blt (17 + r) 32 = true from Nat.blt_eq.mpr (by omega), nbeq (by omega), nbeq (by omega)]; rfl
  refine ⟨h1, h2, h3, ?_, ⟨fun i hi => ?_, fun b hb => ?_⟩, fun k hk => ?_, R, h7, by rw [hs.1 266 9 h9]; exact h8⟩
  · have e0 : ∀ j, σ'.1 q j = σ.1 q j := fun j => eq 0 j (by decide) (by decide)
    unfold CNum
    rw [e0, e0, e0, e0, e0]; exact h4
  · rw [eq 2 _ (by decide) (by decide), eq 3 _ (by decide) (by decide)]; exact h5.1 i hi
  · rw [eq 6 _ (by decide) (by decide), eq 7 _ (by decide) (by decide)]; exact h5.2 b hb
  · obtain ⟨a, b, g1, g2, g3, g4, g5⟩ := h6 k hk
    exact ⟨a, b, by rw [eq 12 _ (by decide) (by decide)]; exact g1, by rw [eq 13 _ (by decide) (by decide)]; exact g2, g3, g4, fun j hj => by rw [eq 11 _ (by decide) (by decide)]; exact g5 j hj⟩
theorem cL_B {k j : Nat} (h : cB k = true) : cL k j = false := by
  unfold cB at h
  simp only [Bool.and_eq_true, Bool.not_eq_true', Nat.blt_eq] at h
  obtain ⟨⟨⟨h1, h2⟩, h3⟩, h4⟩ := h
  unfold cL
  rw [h3, h4, nbeq (show k ≠ 265 by omega), nbeq (show k ≠ 266 by omega)]
  rfl
theorem CRd.cl {ρ : Rf} {σ σ' : St} {q : Nat} {B : Bh} (H : CRd ρ σ q B) (hs : CF cL σ σ') : CRd ρ σ' q B := H.cf hs (fun _ _ h => cL_B h) rfl
theorem cod_ok {B : Bh} (hWf : WfF B) {k : Nat} (hk : k < 4) : ∃ b, wty k (cod B k) [] = some [b] := by
  unfold cod
  cases hf : frm B k with
  | some cs => exact ⟨_, (hWf k hk cs hf).2⟩
  | none =>
    rcases (by omega : k = 0 ∨ k = 1 ∨ k = 2 ∨ k = 3) with rfl | rfl | rfl | rfl <;> exact ⟨_, rfl⟩
section S43
variable {l : Launch} {X : Cx} {ρ : Rf} {σ : St} {B : Bh} {q : Nat}
theorem t_worth (d : Nat) {k : Nat} {see : Nat → Int} (hR : CRd ρ σ q B) (hWf : WfF B) (hk : k < 4) (hs : ∀ s, s < 9 → sOk k s = true → σ.1 266 s = iI (see s)) (hB : ∀ s, s < 9 → sOk k s = true → Bd (see s)) :
    T l X (d + 2) 71 [.ref (q + 10), .int (nI k), .ref 266] 402 402 ρ σ (fun v ρ' σ' => v = some (.int (iI (evF see (cod B k)))) ∧ ρ' = ρ ∧ ∃ f, σ' = sI σ (q + 14) f) := by
  obtain ⟨hρ, hq, -, -, -, h6, R, h7, h8⟩ := hR
  obtain ⟨a, b, g1, g2, g3, g4, g5⟩ := h6 k hk
  obtain ⟨tb, hty⟩ := cod_ok hWf hk
  generalize hse : (fun s => (σ.1 266 s).toInt : Nat → Int) = se
  have hse2 : ∀ s, σ.1 266 s = iI (se s) := fun s => by rw [← hse]; exact (iI_to _).symm
  have h9 : se 9 = (R : Int) := by rw [← hse]; show (σ.1 266 9).toInt = _; rw [h8]; exact nI_toInt (by omega)
  have heq : ∀ s, s < 9 → sOk k s = true → se s = see s := fun s hs9 ho => by
    rw [← hse]
    show (σ.1 266 s).toInt = see s
    rw [hs s hs9 ho]
    exact z_iI (hB s hs9 ho)
  have hcg : evF se (cod B k) = evF see (cod B k) := evF_congr hty heq (fun q => absurd q (by omega))
  have hO : OrdO ρ (q + 10) := OrdO_of hρ (by omega)
  exact (t_value (d := d + 1) (R := R) (O := q + 10) hO (show k < 5 by omega) g1 g2 g3 g4 g5 hty (fun s _ => hse2 s) h9 h7 (fun s hs9 ho => by rw [heq s hs9 ho]; exact hB s hs9 ho) (fun q => absurd q (by omega))).mono (fun v ρ' σ' hq2 => by
    obtain ⟨e1, e2, f, e3⟩ := hq2
    exact ⟨by rw [e1, hcg], e2, f, e3⟩)
theorem ord_q (hR : CRd ρ σ q B) : isO 402 q 0 = true ∧ ρ q 9 = some (q + 10) ∧ isO 402 (q + 10) 5 = true := by
  rcases hR.2.1 with rfl | rfl
  · exact ⟨rfl, hR.1 _ _ _ rfl, rfl⟩
  · exact ⟨rfl, hR.1 _ _ _ rfl, rfl⟩
theorem btw_max {z : Int} {lo hi : Nat} (hz : Bd z) (hl : lo ≤ hi) (hh : hi ≤ 1000) : (if nI lo < (if iI z < nI hi then iI z else nI hi) then (if iI z < nI hi then iI z else nI hi) else nI lo) = nI (btw lo hi z) := by
  have e1 : iI z < nI hi ↔ z < (hi : Int) := by rw [Int32.lt_iff_toInt_lt, z_iI hz, nI_toInt (by omega)]
  have e2 : nI lo < iI z ↔ (lo : Int) < z := by rw [Int32.lt_iff_toInt_lt, z_iI hz, nI_toInt (by omega)]
  have e3 : ∀ w : Nat, z = (w : Int) → iI z = nI w := fun w hw => by rw [hw]; rfl
  unfold btw
  by_cases h1 : z < (hi : Int)
  · rw [if_pos (e1.mpr h1)]
    by_cases h2 : (lo : Int) < z
    · rw [if_pos (e2.mpr h2), if_neg (by omega), if_neg (by omega)]
      exact e3 z.toNat (by omega)
    · rw [if_neg (fun q => h2 (e2.mp q))]
      by_cases h3 : z < lo
      · rw [if_pos h3]
      · rw [if_neg h3, if_neg (by omega), show z.toNat = lo by omega]
  · rw [if_neg (fun q => h1 (e1.mp q))]
    rw [if_neg (show ¬ z < (lo : Int) by omega)]
    by_cases h2 : lo < hi
    · rw [if_pos (nI_lt h2 (by omega))]
      by_cases h3 : (hi : Int) < z
      · rw [if_pos h3]
      · rw [if_neg h3, show z.toNat = hi by omega]
    · rw [if_neg (nI_nlt (by omega) (by omega))]
      by_cases h3 : (hi : Int) < z
      · rw [if_pos h3, show lo = hi by omega]
      · rw [if_neg h3, show z.toNat = lo by omega]
theorem t_between (d : Nat) {z : Int} {lo hi : Nat} (hz : Bd z) (hl : lo ≤ hi) (hh : hi ≤ 1000) : T l X (d + 1) 156 [.int (iI z), .int (nI lo), .int (nI hi)] 402 402 ρ σ (Rs (.int (nI (btw lo hi z))) ρ σ) := by
  refine T_of rfl ?_
  refine Ev_iload rfl rfl ?_
  refine Ev_iload rfl rfl ?_
  refine Ev_iload rfl rfl ?_
  refine Ev_callS rfl rfl rfl rfl (same_n 402) (t_min _ _ _) ?_
  rintro v3 ρ3 σ3 ⟨rfl, e3, g3⟩
  obtain rfl := e3.symm
  obtain rfl := g3.symm
  refine Ev_callS rfl rfl rfl rfl (same_n 402) (t_max _ _ _) ?_
  rintro v6 ρ6 σ6 ⟨rfl, e6, g6⟩
  obtain rfl := e6.symm
  obtain rfl := g6.symm
  refine Ev_norm (btw_max hz hl hh) ?_
  exact Ev_ireturn rfl rfl rfl rfl ⟨rfl, rfl, rfl⟩
theorem cF_pile (hq : q = 2 ∨ q = 17) (f : Nat → Int32) : CF cL σ (sI σ (q + 14) f) := by
  rcases hq with rfl | rfl
  · exact CF.cell σ f (fun _ => rfl)
  · exact CF.cell σ f (fun _ => rfl)
theorem cF_seen {s : Nat} (x : Int32) (h : s ≠ 9) : CF cL σ (sI σ 266 (upd (σ.1 266) s x)) := CF.put σ x (by unfold cL; rw [nbeq h]; rfl)
/-- the tide at an hour; the hour seen is left there -/
theorem t_tideAt (d : Nat) {h : Nat} (hR : CRd ρ σ q B) (hWf : WfF B) (hh : h ≤ 2000) :
    T l X (d + 3) 47 [.ref 265, .int (nI h)] 402 402 ρ σ (fun v ρ' σ' => v = some (.int (nI (tdM B h))) ∧ ρ' = ρ ∧ CF cL σ σ' ∧ (∀ s, s ≠ 0 → σ'.1 266 s = σ.1 266 s) ∧ σ'.1 265 = σ.1 265) := by
  have hρ := hR.1
  have hq := hR.2.1
  have hb := hR.2.2.1
  have hs1 : CF cL σ (sI σ 266 (upd (σ.1 266) 0 (nI h))) := cF_seen _ (by decide)
  have hBd : ∀ s, s < 9 → sOk 0 s = true → Bd ((seeF B (fun _ => 0) 0 0 h 0 0 0 0 s : Nat) : Int) := fun s _ ho => by
    have h0 : s = 0 := Nat.eq_of_beq_eq_true ho
    subst h0
    exact ⟨by show (-1000000 : Int) ≤ (h : Int); omega, by show (h : Int) ≤ 1000000; omega⟩
  have hz := (evF_ok (cod_ok hWf (k := 0) (by decide)).choose_spec hBd (fun q => absurd q (by decide))).1
  refine T_of rfl ?_
  refine Ev_aload rfl rfl rfl ?_
  refine Ev_getR rfl (by first | rfl | assumption) (hρ _ _ _ rfl) ?_
  refine Ev_const rfl ?_
  refine Ev_iload rfl rfl ?_
  refine Ev_iast rfl (by first | rfl | assumption) (vp_in_nI (n := 0) (by decide) (by decide)) ?_
  refine Ev_aload rfl rfl rfl ?_
  refine Ev_getR rfl (by first | rfl | assumption) hb ?_
  refine Ev_getR rfl ((ord_q (hR.cl hs1)).1) ((ord_q (hR.cl hs1)).2.1) ?_
  refine Ev_const rfl ?_
  refine Ev_aload rfl rfl rfl ?_
  refine Ev_getR rfl (by first | rfl | assumption) (hρ _ _ _ rfl) ?_
  refine Ev_callV rfl rfl rfl ((ord_q (hR.cl hs1)).2.2) rfl (same_n 402) (t_worth _ (hR.cl hs1) hWf (k := 0) (by decide) (see := fun s => ((seeF B (fun _ => 0) 0 0 h 0 0 0 0 s : Nat) : Int)) (fun s _ ho => by
  have h0 : s = 0 := Nat.eq_of_beq_eq_true ho
  subst h0
  rw [sR_0]; exact pk_us) hBd) ?_
  rintro v19 ρ19 σ19 ⟨rfl, e19, f, hf⟩
  obtain rfl := e19.symm
  subst hf
  refine Ev_const rfl ?_
  refine Ev_const rfl ?_
  refine Ev_callS rfl rfl rfl rfl (same_n 402) (t_between _ (lo := 0) (hi := 9) hz (by decide) (by decide)) ?_
  rintro v25 ρ25 σ25 ⟨rfl, e25, g25⟩
  obtain rfl := e25.symm
  obtain rfl := g25.symm
  exact Ev_ireturn rfl rfl rfl rfl ⟨rfl, rfl, hs1.tr (cF_pile hq f), fun s hs => by rw [sR_1 _ _ (by rcases hq with rfl | rfl <;> decide), sR_0]; exact pk_un hs, by rw [sR_1 _ _ (by rcases hq with rfl | rfl <;> decide), sR_1 _ _ (by decide)]⟩
end S43
