/-! beach: the whole call, both sides. -/
theorem CRd.qq {ρ ρ' : Rf} {σ σ' : St} {q : Nat} {B : Bh} (H : CRd ρ σ q B) (hr : RF ρ') (hb : ρ' 265 1 = ρ 265 1) (h : ∀ r, r ≤ 14 → σ'.1 (q + r) = σ.1 (q + r)) (h9 : σ'.1 266 = σ.1 266) : CRd ρ' σ' q B := by
  obtain ⟨-, h2, h3, h4, h5, h6, R, h7, h8⟩ := H
  refine ⟨hr, h2, by rw [hb]; exact h3, ?_, ?_, ?_, R, h7, by rw [h9]; exact h8⟩
  · unfold CNum; rw [show σ'.1 q = σ.1 q from h 0 (by decide)]; exact h4
  · unfold CTab; rw [h 2 (by decide), h 3 (by decide), h 6 (by decide), h 7 (by decide)]; exact h5
  · unfold CFrm; rw [h 12 (by decide), h 13 (by decide), h 11 (by decide)]; exact h6
/-- a text taken and nothing else done: the tape is empty, a fault is noted -/
theorem RC.oth {q : Nat} {ρ ρ' : Rf} {σ σ' : St} {A : Ab} {R' : Nat → Int32} {E' : Nat × Int32} (H : RC q ρ σ A) (hR : CRd ρ' σ' q (aB A)) (h0 : ρ' 0 2 = some q ∧ ρ' 0 3 = some (19 - q)) (hk : ∀ k, (k = q + 1 ∨ k = q + 4 ∨ k = q + 5 ∨ (32 ≤ k ∧ k < 265) ∨ k = 267 ∨ k = 315 ∨ k = 324) → σ'.1 k = σ.1 k) (hl : σ'.1 0 1 = nI 0) (hf : σ'.1 0 14 = nI E'.1 ∧ σ'.1 0 15 = E'.2) (hs : σ'.1 0 16 = σ.1 0 16) (hw : σ'.1 0 12 = σ.1 0 12) (hr : ∀ j, j < 6 → σ'.1 325 j = R' j) :
    RC q ρ' σ' (mkA (aB A) (aN A) (aP A) (aF A) (aX A) (0, (aT A).2) R' E' (aG A)) := by
  obtain ⟨-, -, h3, h4, h5, h6, h7, h8, h9, h10, h11⟩ := H
  refine ⟨h0, hR, ?_, h4.eq (fun r hr => hk _ (by omega)), ?_, ?_, ?_, ⟨hl, fun j hj => absurd hj (Nat.not_lt_zero j)⟩, hr, hf, ?_⟩
  · show CNam σ' q (aB A)
    unfold CNam; rw [hk _ (Or.inl rfl), hk _ (Or.inr (Or.inl rfl)), hk _ (Or.inr (Or.inr (Or.inl rfl)))]; exact h3
  · obtain ⟨g1, o, g2, g3, g4⟩ := h5
    exact ⟨by rw [hk 43 (by omega)]; exact g1, o, g2, by rw [hk 43 (by omega)]; exact g3, fun k hk2 => (g4 k hk2).eq (fun r hr => hk _ (by have := Nat.mod_lt (o + ((aP A).1 - 1 - k)) (show 0 < 20 by decide); omega))⟩
  · show CFnd σ' (aF A)
    unfold CFnd; rw [hk 267 (by omega), hk 315 (by omega)]; exact h6
  · rw [hs]; exact h7
  · show CImg σ' (aG A)
    unfold CImg; rw [hw, hk 324 (by omega)]; exact h11
theorem rb_cell {q k : Nat} {σ σ' : St} (h : CF (cRb q) σ σ') (k1 : k ≠ 316) (k2 : k ≠ 318) (k3 : ¬ (q ≤ k ∧ k ≤ q + 14)) : σ'.1 k = σ.1 k := funext fun j => h.1 k j (by
  have e : cBq q k = false := by
    cases hz : cBq q k with
    | false => rfl
    | true =>
      unfold cBq at hz
      rw [Bool.and_eq_true, Nat.ble_eq, Nat.ble_eq] at hz
      exact absurd hz k3
  unfold cRb
  rw [cTn_f k1, nbeq k2, e]; rfl)
section S88zzi
variable {l : Launch} {X : Cx}
theorem t_standAt (d : Nat) {ρ : Rf} {σ : St} {q : Nat} : T l X d 46 [.ref 265, .ref q] 402 402 ρ σ (fun v ρ' σ' => v = none ∧ ρ' = sR ρ 265 (va_up (ρ 265) 1 (some q)) ∧ σ' = σ) := by
  refine T_of rfl ?_
  refine Ev_aload rfl rfl rfl ?_
  refine Ev_aload rfl rfl rfl ?_
  refine Ev_putR rfl (by first | rfl | assumption) (fun _ => ⟨rfl, rfl⟩) (Or.inl rfl) ?_
  exact Ev_return rfl rfl rfl ⟨rfl, rfl, rfl⟩
theorem op_beach : OpI l X InvA 106 189 [] := by
  refine op_of (fun A q ρ σ hA hC hρ => ?_)
  refine ⟨bcV A, bcA A, wf_bcA hA, ?_, fun ρ σ hM => m_beach 89 hA hM⟩
  have hC0 := hC
  obtain ⟨⟨p1, p2⟩, hR, hNam, hNow, hPas, hFnd, hX, hTap, hRf, ⟨hE1, hE2⟩, hImg⟩ := hC
  have hT := tx_A hA
  have hq : q = 2 ∨ q = 17 := hR.2.1
  have hq' : 19 - q = 2 ∨ 19 - q = 17 := by omega
  obtain ⟨⟨wI, wB⟩, -⟩ := wf_bcR hT 61 0 (.inr (0, 0), B00) rfl (wf_0 (aT A))
  refine T_of rfl ?_
  refine Ev_aload rfl rfl rfl ?_
  refine Ev_getR rfl (by first | rfl | assumption) (hρ _ _ _ rfl) ?_
  refine Ev_aload rfl rfl rfl ?_
  refine Ev_callV rfl rfl rfl rfl rfl (same_n 402) (t_takeTape _) ?_
  rintro v5 ρ5 σ5 ⟨rfl, e5, g5⟩
  obtain rfl := e5.symm
  obtain rfl := g5.symm
  refine Ev_norm hTap.1 ?_
  refine Ev_callV rfl rfl rfl rfl rfl (same_n 402) (t_open _ (U := aT A) (n := (aT A).1) hρ hT rfl (fun j hj => by rw [sR_1 _ _ (by decide)]; exact hTap.2 j hj)) ?_
  rintro v8 ρ8 σ8 ⟨rfl, e8, s8, f8, g8⟩
  obtain rfl := e8.symm
  refine Ev_aload rfl rfl rfl ?_
  refine Ev_getR rfl (by first | rfl | assumption) (hρ _ _ _ rfl) ?_
  refine Ev_aload rfl rfl rfl ?_
  refine Ev_getR rfl (by first | rfl | assumption) p2 ?_
  refine Ev_callV rfl rfl rfl rfl rfl (same_n 402) (t_readBeach _ (q := 19 - q) hq' hρ hT s8) ?_
  rintro v19 ρ19 σ19 ⟨⟨c, rfl, hc⟩, r19, s19, n19, c19⟩
  refine Ev_istore rfl ?_
  have hy : bcR (aT A) 61 0 (.inr (0, 0), B00) = bcY A := rfl
  rw [hy] at hc s19 n19 wI wB
  have hcell : ∀ k, k ≠ 0 → k ≠ 316 → k ≠ 318 → ¬ (19 - q ≤ k ∧ k ≤ 19 - q + 14) → σ19.1 k = σ.1 k := fun k k0 k1 k2 k3 => by
    rw [rb_cell c19 k1 k2 k3, g8, sR_1 _ _ k1, sR_1 _ _ k0]
  have h00 : ∀ j, σ19.1 0 j = upd (σ.1 0) 1 0 j := fun j => by
    rw [rb_cell c19 (by decide) (by decide) (by omega), g8, sR_1 _ _ (by decide), sR_0]
  have hup : upM σ σ19 := ⟨fun k hk => hcell k (by omega) (by omega) (by omega) (by omega), by rw [c19.2, g8]; rfl⟩
  cases hs : (bcY A).1.1 with
  | inl e =>
    rw [hs] at s19
    obtain ⟨⟨t1, t2⟩, t3, t4, t5, -⟩ := s19
    have eV : bcV A = -1 := by unfold bcV; rw [hs]
    have eA : bcA A = mkA (aB A) (aN A) (aP A) (aF A) (aX A) (0, (aT A).2) (rfN (aR A) 1) (e.1, nI e.2) (aG A) := by unfold bcA; rw [hs]
    rw [eV, eA]
    refine Ev_aload rfl rfl rfl ?_
    refine Ev_callV rfl rfl rfl rfl rfl (same_n 402) (t_noteFault _ r19.1) ?_
    rintro v24 ρ24 σ24 ⟨rfl, e24, g24⟩
    obtain rfl := e24.symm
    obtain rfl := g24.symm
    refine Ev_aload rfl rfl rfl ?_
    refine Ev_getI rfl (by first | rfl | assumption) ?_
    refine Ev_norm (by rw [sR_0, pk_un (by decide), pk_us]; exact t3 : _ = nI e.1) ?_
    refine Ev_if_eq rfl (fun h31 => absurd h31 (nI_ne0 t5.1 (by omega))) (fun h31 => ?_)
    refine Ev_aload rfl rfl rfl ?_
    refine Ev_const rfl ?_
    refine Ev_callV rfl rfl rfl rfl rfl (same_n 402) (t_refuse _ r19.1 (w := 1) (by decide)) ?_
    rintro v36 ρ36 σ36 ⟨rfl, e36, g36⟩
    obtain rfl := e36.symm
    obtain rfl := g36.symm
    exact Ev_ireturn rfl rfl rfl rfl (by
    have hb0 : ∀ k, k ≠ 0 → k ≠ 325 → (bump (sI σ19 0 (upd (upd (σ19.1 0) 14 (σ19.1 316 6)) 15 (σ19.1 316 7))) 325 1).1 k = σ19.1 k := fun k k0 k1 => by unfold bump; rw [sR_1 _ _ k1, sR_1 _ _ k0]
    have hb1 : (bump (sI σ19 0 (upd (upd (σ19.1 0) 14 (σ19.1 316 6)) 15 (σ19.1 316 7))) 325 1).1 0 = upd (upd (σ19.1 0) 14 (σ19.1 316 6)) 15 (σ19.1 316 7) := by unfold bump; rw [sR_1 _ _ (by decide), sR_0]
    refine ⟨rfl, r19.1, ⟨fun k hk => by rw [hb0 k (by omega) (by omega)]; exact hup.1 k hk, hup.2⟩, q, hC0.oth ?_ ⟨?_, ?_⟩ (fun k hk => ?_) ?_ ⟨?_, ?_⟩ ?_ ?_ (fun j hj => ?_)⟩
    · refine hR.qq r19.1 (r19.2 _ _ (by decide) (by decide)) (fun r hr => ?_) ?_
      · rw [hb0 _ (by omega) (by omega), hcell _ (by omega) (by omega) (by omega) (by omega)]
      · rw [hb0 _ (by decide) (by decide), hcell _ (by decide) (by decide) (by decide) (by omega)]
    · rw [r19.2 _ _ (by decide) (by decide)]; exact p1
    · rw [r19.2 _ _ (by decide) (by decide)]; exact p2
    · rw [hb0 _ (by omega) (by omega), hcell _ (by omega) (by omega) (by omega) (by omega)]
    · rw [hb1, pk_un (by decide), pk_un (by decide), h00, pk_us]; rfl
    · rw [hb1, pk_un (by decide), pk_us]; exact t3
    · rw [hb1, pk_us]; exact t4
    · rw [hb1, pk_un (by decide), pk_un (by decide), h00, pk_un (by decide)]
    · rw [hb1, pk_un (by decide), pk_un (by decide), h00, pk_un (by decide)]
    · show (bump _ 325 1).1 325 j = rfN (aR A) 1 j
      unfold bump rfN
      rw [sR_0, sR_1 _ _ (by decide), hcell _ (by decide) (by decide) (by decide) (by omega)]
      by_cases hz : j = 1
      · rw [if_pos hz, hz, pk_us, hRf 1 (by decide)]
      · rw [if_neg hz, pk_un hz, hRf j hj])
  | inr p =>
    have hok : isOk (bcY A).1.1 = true := by rw [hs]; rfl
    rw [hs] at s19
    obtain ⟨⟨t1, t2⟩, t3, t4, ⟨t7, t8⟩, t5, t6⟩ := s19
    obtain ⟨nF, nC⟩ := n19 hok
    have hcc := hc hok
    obtain ⟨b1, b2⟩ := wB hok
    have eV : bcV A = nI (bcY A).2 := by unfold bcV; rw [hs]
    have eA : bcA A = mkA (bcY A).1.2 (Mo0 (bcY A).1.2) (0, (aP A).2) (0, (aF A).2) (aX A) (0, (aT A).2) (aR A) (0, -1) (aG A) := by unfold bcA; rw [hs]
    rw [eV, eA]
    have b16 : flen (bcY A).1.2 ≤ 1600 := by
      have := rpos_le wI hok
      have := hT.1
      omega
    generalize (bcY A).1.2 = B at *
    have q0 : ρ19 0 2 = some q := by rw [r19.2 _ _ (by decide) (by decide)]; exact p1
    have q1 : ρ19 0 3 = some (19 - q) := by rw [r19.2 _ _ (by decide) (by decide)]; exact p2
    have hρ2 := rf_0 (f := 3) (rf_0 (f := 2) r19.1 (Or.inl rfl) (19 - q)) (Or.inr rfl) q
    have hρ3 := rf_265 hρ2 (19 - q)
    have kb : (sR (sR ρ19 0 (va_up (ρ19 0) 2 (some (19 - q)))) 0 (va_up ((sR ρ19 0 (va_up (ρ19 0) 2 (some (19 - q)))) 0) 3 (some q))) 0 2 = some (19 - q) := by rw [rf_0n q (by decide), rf_0s]
    have ks : (sR (sR ρ19 0 (va_up (ρ19 0) 2 (some (19 - q)))) 0 (va_up ((sR ρ19 0 (va_up (ρ19 0) 2 (some (19 - q)))) 0) 3 (some q))) 0 3 = some q := rf_0s _ _
    generalize hr2 : sR (sR ρ19 0 (va_up (ρ19 0) 2 (some (19 - q)))) 0 (va_up ((sR ρ19 0 (va_up (ρ19 0) 2 (some (19 - q)))) 0) 3 (some q)) = ρ2 at hρ2 hρ3 kb ks
    refine Ev_aload rfl rfl rfl ?_
    refine Ev_callV rfl rfl rfl rfl rfl (same_n 402) (t_noteFault _ r19.1) ?_
    rintro v24 ρ24 σ24 ⟨rfl, e24, g24⟩
    obtain rfl := e24.symm
    obtain rfl := g24.symm
    refine Ev_aload rfl rfl rfl ?_
    refine Ev_getI rfl (by first | rfl | assumption) ?_
    refine Ev_norm (by rw [sR_0, pk_un (by decide), pk_us]; exact t7 : _ = (0 : Int32)) ?_
    refine Ev_if_eq rfl (fun h31 => ?_) (fun h31 => absurd rfl h31)
    refine Ev_aload rfl rfl rfl ?_
    refine Ev_getR rfl (by first | rfl | assumption) q0 ?_
    refine Ev_astore rfl rfl ?_
    refine Ev_aload rfl rfl rfl ?_
    refine Ev_aload rfl rfl rfl ?_
    refine Ev_getR rfl (by first | rfl | assumption) q1 ?_
    refine Ev_putR rfl (by first | rfl | assumption) (fun _ => ⟨rfl, rfl⟩) (Or.inl rfl) ?_
    refine Ev_aload rfl rfl rfl ?_
    refine Ev_aload rfl rfl rfl ?_
    refine Ev_putR rfl (by first | rfl | assumption) (fun _ => ⟨rfl, rfl⟩) (Or.inl rfl) ?_
    rw [hr2]
    refine Ev_aload rfl rfl rfl ?_
    refine Ev_getR rfl (by first | rfl | assumption) (hρ2 _ _ _ rfl) ?_
    refine Ev_aload rfl rfl rfl ?_
    refine Ev_getR rfl (by first | rfl | assumption) kb ?_
    refine Ev_callV rfl rfl rfl rfl rfl (same_n 402) (t_standAt _) ?_
    rintro v66 ρ66 σ66 ⟨rfl, e66, g66⟩
    obtain rfl := e66.symm
    obtain rfl := g66.symm
    refine Ev_aload rfl rfl rfl ?_
    refine Ev_getR rfl (by first | rfl | assumption) (hρ3 _ _ _ rfl) ?_
    refine Ev_aload rfl rfl rfl ?_
    refine Ev_getR rfl (by first | rfl | assumption) (by rw [rf_265k _ _ (by decide)]; exact kb : _ = some (19 - q)) ?_
    refine Ev_callV rfl rfl rfl rfl rfl (same_n 402) (t_begin _ hq' hρ3 b1 (by unfold CNum; rw [sR_1 _ _ (by omega)]; exact nF.1) (fun k hk => by rw [sR_1 _ _ (by omega), sR_1 _ _ (by omega)]; exact nF.2.2.2.1 k hk)) ?_
    rintro v77 ρ77 σ77 ⟨rfl, e77, m77, k77, l77⟩
    obtain rfl := e77.symm
    refine Ev_aload rfl rfl rfl ?_
    refine Ev_getR rfl (by first | rfl | assumption) (hρ3 _ _ _ rfl) ?_
    refine Ev_callV rfl rfl rfl rfl rfl (same_n 402) (t_clear _) ?_
    rintro v84 ρ84 σ84 ⟨rfl, e84, g84⟩
    obtain rfl := e84.symm
    refine Ev_aload rfl rfl rfl ?_
    refine Ev_getR rfl (by first | rfl | assumption) (hρ3 _ _ _ rfl) ?_
    refine Ev_const rfl ?_
    refine Ev_putI rfl (by first | rfl | assumption) ⟨rfl, rfl⟩ rfl ?_
    refine Ev_iload rfl rfl ?_
    exact Ev_ireturn rfl rfl rfl rfl (by
    subst hcc
    have hcl : ∀ k, k ≠ 0 → k ≠ 43 → k ≠ 267 → (k < 32 ∨ 42 < k) → (sI σ84 267 (upd (σ84.1 267) 12 0)).1 k = σ19.1 k := fun k k0 k1 k2 k3 => by rw [sR_1 _ _ k2, g84, sR_1 _ _ k1, k77 k k3, sR_1 _ _ k0]
    have hc0 : (sI σ84 267 (upd (σ84.1 267) 12 0)).1 0 = upd (upd (σ19.1 0) 14 (σ19.1 316 6)) 15 (σ19.1 316 7) := by rw [sR_1 _ _ (by decide), g84, sR_1 _ _ (by decide), k77 0 (by decide), sR_0]
    have hq14 : ∀ r, r ≤ 14 → (sI σ84 267 (upd (σ84.1 267) 12 0)).1 (19 - q + r) = σ19.1 (19 - q + r) := fun r hr => hcl _ (by omega) (by omega) (by omega) (by omega)
    refine ⟨rfl, hρ3, ?_, 19 - q, ⟨?_, ?_⟩, ⟨hρ3, hq', rf_265s _, ?_, ⟨fun i hi => ?_, fun b hb => ?_⟩, fun k hk => ?_, ?_⟩, ⟨fun i hi => ?_, fun b hb => ?_⟩, ?_, ⟨?_, 0, by decide, ?_, fun k hk => absurd hk (Nat.not_lt_zero k)⟩, ⟨?_, fun j hj => absurd hj (by show ¬ j < 4 * 0; omega)⟩, ?_, ⟨?_, fun j hj => absurd hj (Nat.not_lt_zero j)⟩, fun j hj => ?_, ⟨?_, ?_⟩, ?_⟩
    · have h2 : (sI σ84 267 (upd (σ84.1 267) 12 0)).2 = σ77.2 := by show σ84.2 = _; rw [g84]; rfl
      refine ⟨fun k hk => by rw [hcl k (by omega) (by omega) (by omega) (by omega)]; exact hup.1 k hk, ?_⟩
      rw [h2]
      rw [l77]; exact hup.2
    · rw [rf_265k _ _ (by decide)]; exact kb
    · rw [rf_265k _ _ (by decide), show 19 - (19 - q) = q by omega]; exact ks
    · unfold CNum; rw [show (sI σ84 267 (upd (σ84.1 267) 12 0)).1 (19 - q) = σ19.1 (19 - q) from hq14 0 (by decide)]; exact nF.1
    · rw [hq14 2 (by decide), hq14 3 (by decide)]; exact (nF.2.1 i hi).2
    · rw [hq14 6 (by decide), hq14 7 (by decide)]; exact (nF.2.2.1 b hb).2
    · have g := nC k hk
      rw [if_pos (Or.inl hk)] at g
      obtain ⟨a, b, k1, k2, k3, k4, k5⟩ := g
      have := szU_4 B
      exact ⟨a, b, by rw [hq14 12 (by decide)]; exact k1, by rw [hq14 13 (by decide)]; exact k2, k3, by omega, fun j hj => by rw [hq14 11 (by decide)]; exact k5 j hj⟩
    · obtain ⟨-, -, -, -, -, -, R, hR1, hR2⟩ := hR
      exact ⟨R, hR1, by rw [hcl 266 (by decide) (by decide) (by decide) (by decide), hcell 266 (by decide) (by decide) (by decide) (by omega)]; exact hR2⟩
    · rw [hq14 1 (by decide), hq14 4 (by decide)]; exact ⟨(nF.2.1 i hi).1, nF.2.2.2.2 i hi⟩
    · rw [hq14 5 (by decide)]; exact (nF.2.2.1 b hb).1
    · exact m77.eq (fun r hr => by rw [sR_1 _ _ (by omega), g84, sR_1 _ _ (by omega)])
    · rw [sR_1 _ _ (by decide), g84, sR_0, pk_us]; rfl
    · rw [sR_1 _ _ (by decide), g84, sR_0, pk_un (by decide), pk_us]; rfl
    · rw [sR_0, pk_us]; rfl
    · rw [hc0, pk_un (by decide), pk_un (by decide), h00, pk_un (by decide)]; exact hX
    · rw [hc0, pk_un (by decide), pk_un (by decide), h00, pk_us]; rfl
    · rw [hcl 325 (by decide) (by decide) (by decide) (by decide), hcell 325 (by decide) (by decide) (by decide) (by omega)]; exact hRf j hj
    · rw [hc0, pk_un (by decide), pk_us]; exact t7
    · rw [hc0, pk_us]; exact t8
    · show CImg _ (aG A)
      unfold CImg
      rw [hc0, pk_un (by decide), pk_un (by decide), h00, pk_un (by decide), hcl 324 (by decide) (by decide) (by decide) (by decide), hcell 324 (by decide) (by decide) (by decide) (by omega)]
      exact hImg)
end S88zzi
