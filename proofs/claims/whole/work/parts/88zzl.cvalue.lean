/-! A question of a bather: the class. -/
/-- the same but for what a question's value touches -/
def cV (k j : Nat) : Bool := cL k j || (Nat.beq k 266 && Nat.beq j 9) || Nat.beq k 323
theorem cV_f {k j : Nat} (h : cV k j = false) : cL k j = false ∧ (Nat.beq k 266 && Nat.beq j 9) = false ∧ Nat.beq k 323 = false := by
  unfold cV at h
  simp only [Bool.or_eq_false_iff] at h
  exact ⟨h.1.1, h.1.2, h.2⟩
theorem cL_V {σ σ' : St} (h : CF cL σ σ') : CF cV σ σ' := h.wk (fun k j z => (cV_f z).1)
theorem cA0_V {σ σ' : St} (h : CF cA0 σ σ') : CF cV σ σ' := h.wk (fun k j z => cA0_L (cV_f z).1)
theorem cV_seen {σ : St} (f : Nat → Int32) : CF cV σ (sI σ 266 f) := CF.cell σ f (fun j => by
  unfold cV cL
  cases h : Nat.beq j 9 <;> rfl)
theorem cV_k {k j : Nat} (h : k ≠ 16 ∧ k ≠ 31 ∧ k ≠ 265 ∧ k ≠ 266 ∧ k ≠ 323) : cV k j = false := by
  obtain ⟨h1, h2, h3, h4, h5⟩ := h
  unfold cV cL
  rw [nbeq h1, nbeq h2, nbeq h3, nbeq h4, nbeq h5]; rfl
theorem CRd.of9 {ρ : Rf} {σ σ' : St} {q : Nat} {B : Bh} {R : Nat} (H : CRd ρ σ q B) (h : ∀ k, k ≠ 266 → k ≠ 323 → k ≠ 16 → k ≠ 31 → k ≠ 265 → σ'.1 k = σ.1 k) (hR : R < 256) (h9 : σ'.1 266 9 = nI R) : CRd ρ σ' q B := by
  obtain ⟨h1, h2, h3, h4, h5, h6, -⟩ := H
  have e : ∀ r, r < 15 → r ≠ 14 → σ'.1 (q + r) = σ.1 (q + r) := fun r hr h12 => h _ (by omega) (by omega) (by omega) (by omega) (by omega)
  refine ⟨h1, h2, h3, ?_, ?_, ?_, R, hR, h9⟩
  · unfold CNum; rw [show σ'.1 q = σ.1 q from e 0 (by decide) (by decide)]; exact h4
  · unfold CTab; rw [e 2 (by decide) (by decide), e 3 (by decide) (by decide), e 6 (by decide) (by decide), e 7 (by decide) (by decide)]; exact h5
  · unfold CFrm; rw [e 12 (by decide) (by decide), e 13 (by decide) (by decide), e 11 (by decide) (by decide)]; exact h6
section S88zzl
variable {l : Launch} {X : Cx} {ρ : Rf} {B : Bh} {q : Nat}
theorem vo_loop (d : Nat) {r b : Nat} {row : Nat → Nat} {σ0 : St} {Q : Po} (hρ : RF ρ) (hq : q = 2 ∨ q = 17) (hlf : ρ 265 1 = some q) (hn : σ0.1 q 10 = nI (ni B)) (hW : WfN B) (hr : RowO r) (hrow : RowR σ0 r row) (h8 : Rw8 B row)
    (hQ : ∀ σ L, (∀ j, j < 8 → σ.1 266 (10 + j) = nI (row j)) → (∀ s, s < 10 → σ.1 266 s = σ0.1 266 s) → (∀ k, k ≠ 266 → σ.1 k = σ0.1 k) → σ.2 = σ0.2 → Ev l X d 56 65 [.ref 265, .ref 319, .int (nI b), .ref r, L] [] 402 402 402 ρ σ Q) :
    ∀ (m i : Nat) (σ : St), i + m = 8 → (∀ j, j < i → σ.1 266 (10 + j) = nI (row j)) → (∀ s, s < 10 → σ.1 266 s = σ0.1 266 s) → (∀ k, k ≠ 266 → σ.1 k = σ0.1 k) → σ.2 = σ0.2 → Ev l X d 56 22 [.ref 265, .ref 319, .int (nI b), .ref r, .int (nI i)] [] 402 402 402 ρ σ Q := by
  have w8 := hW.1
  intro m
  induction m with
  | zero =>
    intro i σ hm h1 h2 h3 h4
    obtain rfl : i = 8 := by omega
    refine Ev_iload rfl rfl ?_
    refine Ev_const rfl ?_
    refine Ev_icmp_ge rfl (fun h26 => ?_) (fun h26 => absurd (nI_le (a := 8) (b := 8) (by omega) (by omega)) h26)
    exact hQ σ _ h1 h2 h3 h4
  | succ m ih =>
    intro i σ hm h1 h2 h3 h4
    have next : ∀ x, x = nI (row i) → Ev l X d 56 22 [.ref 265, .ref 319, .int (nI b), .ref r, .int (nI (i + 1))] [] 402 402 402 ρ (sI σ 266 (upd (σ.1 266) (10 + i) x)) Q := by
      intro x hx
      subst hx
      refine ih (i + 1) _ (by omega) (fun j hj => ?_) (fun s hs => ?_) (fun k hk => ?_) h4
      · rw [sR_0]
        by_cases hz : j = i
        · rw [hz, pk_us]
        · rw [pk_un (by omega)]; exact h1 j (by omega)
      · rw [sR_0, pk_un (by omega)]; exact h2 s hs
      · rw [sR_1 _ _ hk]; exact h3 k hk
    refine Ev_iload rfl rfl ?_
    refine Ev_const rfl ?_
    refine Ev_icmp_ge rfl (fun h26 => absurd h26 (nI_ge (b := 8) (by omega) (by omega))) (fun h26 => ?_)
    refine Ev_aload rfl rfl rfl ?_
    refine Ev_getR rfl (by first | rfl | assumption) (hρ _ _ _ rfl) ?_
    refine Ev_const rfl ?_
    refine Ev_iload rfl rfl ?_
    refine Ev_iadd rfl ?_
    refine Ev_norm (nI_add 10 i) ?_
    refine Ev_iload rfl rfl ?_
    refine Ev_aload rfl rfl rfl ?_
    refine Ev_getR rfl (by first | rfl | assumption) hlf ?_
    refine Ev_getI rfl (by rcases hq with rfl | rfl <;> rfl) ?_
    refine Ev_norm (by rw [h3 q (by omega)]; exact hn : _ = nI (ni B)) ?_
    refine Ev_icmp_ge rfl (fun h47 => ?_) (fun h47 => ?_)
    · refine Ev_const rfl ?_
      refine Ev_iast rfl (by first | rfl | assumption) (vp_in_nI (n := 10 + i) (show 10 + i < 18 by omega) (by decide)) ?_
      refine Ev_iincE rfl rfl (nI_1 i) ?_
      refine Ev_goto rfl ?_
      rw [nI_clamp (show 10 + i < 2 ^ 31 by omega)]
      refine next _ ?_
      have hge : ni B ≤ i := Nat.le_of_not_lt (fun z => nI_ge z (by omega) h47)
      rw [h8.2 i hge]; rfl
    · refine Ev_aload rfl rfl rfl ?_
      refine Ev_iload rfl rfl ?_
      refine Ev_iald rfl hr.1 (by rw [hr.2.1]; exact vp_in_nI (n := i) (show i < 8 by omega) (by decide)) ?_
      refine Ev_norm (by rw [nI_clamp (by omega), h3 r hr.2.2.2.2.1]; exact hrow i (by omega) : _ = nI (row i)) ?_
      refine Ev_goto rfl ?_
      refine Ev_iast rfl (by first | rfl | assumption) (vp_in_nI (n := 10 + i) (show 10 + i < 18 by omega) (by decide)) ?_
      refine Ev_iincE rfl rfl (nI_1 i) ?_
      refine Ev_goto rfl ?_
      rw [nI_clamp (show 10 + i < 2 ^ 31 by omega)]
      exact next _ rfl
theorem t_valueOf (d : Nat) {r b w h tide : Nat} {row : Nat → Nat} {σ : St} {cs : List Nat} {tf : Bool} (hR : CRd ρ σ q B) (hW : WfN B) (hWt : WfT B) (hWf : WfF B) (hb : b < nb B) (hr : RowO r) (hrow : RowR σ r row) (h8 : Rw8 B row) (hst : Stl σ B row b w h tide) (hw9 : w ≤ 9) (hh : h ≤ 2000) (ht9 : tide ≤ 9) (hty : wty 4 cs [] = some [tf]) (hlen : cs.length ≤ 1600) (hO : COr σ 319 0 cs) (hfr : σ.1 321 4 = nI 0) (hto : σ.1 322 4 = nI cs.length) :
    T l X (d + 5) 56 [.ref 265, .ref 319, .int (nI b), .ref r] 402 402 ρ σ (fun v ρ' σ' => v = some (.int (iI (evF (fun s => ((seeF B row b w h tide 0 0 (rset B row b w h tide) s : Nat) : Int)) cs))) ∧ ρ' = ρ ∧ CF cV σ σ' ∧ CRd ρ σ' q B) := by
  have hρ := hR.1
  have hq := hR.2.1
  have hb6 := hW.2.1
  have hR8 := rset_256 (B := B) (row := row) (b := b) (w := w) (h := h) (tide := tide) hW
  have hBd : ∀ s, s < 9 → sOk 4 s = true → Bd ((seeF B row b w h tide 0 0 (rset B row b w h tide) s : Nat) : Int) := fun s hs ho => seeBd hWt hw9 hh ht9 (by decide) (by decide) (fun _ => hb) hW.2.1 (fun z => absurd z (by decide)) hs ho
  have hrb := t_readyBits (l := l) (X := X) (d + 0) hR hW hWt hWf hst hw9 hh ht9 hb
  generalize rset B row b w h tide = R at *
  refine T_of rfl ?_
  refine Ev_aload rfl rfl rfl ?_
  refine Ev_getR rfl (by first | rfl | assumption) (hρ _ _ _ rfl) ?_
  refine Ev_const rfl ?_
  refine Ev_aload rfl rfl rfl ?_
  refine Ev_callV rfl rfl rfl rfl rfl (same_n 402) hrb ?_
  rintro v7 ρ7 σ7 ⟨rfl, e7, s7⟩
  obtain rfl := e7.symm
  refine Ev_iast rfl (by first | rfl | assumption) (vp_in_nI (n := 9) (by decide) (by decide)) ?_
  refine Ev_aload rfl rfl rfl ?_
  refine Ev_getR rfl (by first | rfl | assumption) (hρ _ _ _ rfl) ?_
  refine Ev_const rfl ?_
  refine Ev_iload rfl rfl ?_
  refine Ev_iast rfl (by first | rfl | assumption) (vp_in_nI (n := 8) (by decide) (by decide)) ?_
  refine Ev_const rfl ?_
  refine Ev_istore rfl ?_
  have st7 := hst.ca s7
  have e9 : (9 : Int32).toNatClampNeg = 9 := rfl
  have e8 : (8 : Int32).toNatClampNeg = 8 := rfl
  have hR7 := hR.cl (s7.wk (fun _ _ z => cA0_L z))
  generalize hσA : sI (sI σ7 266 _) 266 _ = σA
  have a66 : σA.1 266 = upd (upd (σ7.1 266) 9 (nI R)) 8 (nI b) := by rw [← hσA, sR_0, sR_0, e8, e9]
  have aO : ∀ k, k ≠ 266 → σA.1 k = σ7.1 k := fun k hk => by rw [← hσA, sR_1 _ _ hk, sR_1 _ _ hk]
  have aF : CF cV σ7 σA := by rw [← hσA]; exact (cV_seen _).tr (cV_seen _)
  clear hσA
  refine vo_loop (d + 5) (σ0 := σA) hρ hq hR.2.2.1 (by rw [aO q (by omega)]; exact hR7.2.2.2.1.1) hW hr (fun i hi => by rw [aO r hr.2.2.2.2.1, s7.1 r i (cA0_L (by unfold cL; rw [nbeq (show r ≠ 16 by have := hr.2.2.1; omega), nbeq (show r ≠ 31 by have := hr.2.2.1; omega), nbeq hr.2.2.2.1, nbeq hr.2.2.2.2.1]; rfl))]; exact hrow i hi) h8 (fun σL L l1 l2 l3 l4 => ?_) 8 0 σA rfl (fun j hj => absurd hj (Nat.not_lt_zero j)) (fun _ _ => rfl) (fun _ _ => rfl) rfl
  have hcF : CF cV σ7 σL := aF.tr ⟨fun k j hj => by
    by_cases hk : k = 266
    · subst hk; exact absurd hj (by unfold cV cL; cases h : Nat.beq j 9 <;> decide)
    · rw [l3 k hk], l4⟩
  have hall : CF cV σ σL := (cA0_V s7).tr hcF
  have b66 : ∀ s, s < 10 → σL.1 266 s = upd (upd (σ7.1 266) 9 (nI R)) 8 (nI b) s := fun s hs => by rw [l2 s hs, a66]
  have h9L : σL.1 266 9 = nI R := by rw [b66 9 (by decide), pk_un (by decide), pk_us]
  have hRL : CRd ρ σL q B := hR7.of9 (fun k k1 k2 k3 k4 k5 => by rw [l3 k k1, aO k k1]) hR8 h9L
  have hOL : COr σL 319 0 cs := hO.cf hall (fun j => cV_k (by decide)) (fun j => cV_k (by decide))
  obtain ⟨-, o2, o3⟩ := hOL
  generalize hse : (fun s => (σL.1 266 s).toInt : Nat → Int) = se
  have hse2 : ∀ s, σL.1 266 s = iI (se s) := fun s => by rw [← hse]; exact (iI_to _).symm
  have h9 : se 9 = (R : Int) := by rw [← hse]; show (σL.1 266 9).toInt = _; rw [h9L]; exact nI_toInt (by omega)
  have hrw : ∀ j, j < 8 → se (10 + j) = ((row j : Nat) : Int) := fun j hj => by rw [← hse]; show (σL.1 266 (10 + j)).toInt = _; rw [l1 j hj]; exact nI_toInt (by have := h8.1 j; omega)
  have hn : ∀ s x, s < 9 → σL.1 266 s = nI x → x < 2 ^ 31 → se s = (x : Int) := fun s x _ hx hx2 => by rw [← hse]; show (σL.1 266 s).toInt = _; rw [hx]; exact nI_toInt hx2
  have heq : ∀ s, s < 9 → sOk 4 s = true → se s = ((seeF B row b w h tide 0 0 R s : Nat) : Int) := fun s hs ho => by
    have hb2 := hBd s hs ho
    have hx := hn s (seeF B row b w h tide 0 0 R s) hs
    refine hx ?_ (by have := hb2.2; omega)
    clear hx hb2
    rw [b66 s (by omega)]
    obtain ⟨t1, t2, t3, t4, t5, -⟩ := st7
    match s, hs, ho with
    | 0, _, _ => rw [pk_un (by decide), pk_un (by decide)]; exact t1
    | 1, _, ho => exact absurd ho (by decide)
    | 2, _, _ => rw [pk_un (by decide), pk_un (by decide)]; exact t2
    | 3, _, _ => rw [pk_un (by decide), pk_un (by decide)]; exact t3
    | 4, _, _ => rw [pk_un (by decide), pk_un (by decide)]; exact t4
    | 5, _, _ => rw [pk_un (by decide), pk_un (by decide)]; exact t5
    | 6, _, ho => exact absurd ho (by decide)
    | 7, _, ho => exact absurd ho (by decide)
    | 8, _, _ => rw [pk_us]; rfl
  have heq2 : 4 = 4 → ∀ s, 9 ≤ s → s < 18 → se s = ((seeF B row b w h tide 0 0 R s : Nat) : Int) := fun _ s h1 h2 => by
    by_cases hz : s = 9
    · subst hz; exact h9
    · obtain ⟨s', rfl⟩ : ∃ s', s = s' + 10 := ⟨s - 10, by omega⟩
      rw [Nat.add_comm s' 10, hrw s' (by omega), Nat.add_comm 10 s']
      rfl
  have hcg := evF_congr hty heq heq2
  have hB2 : 4 = 4 → ∀ s, 10 ≤ s → s < 18 → Bd (se s) := fun _ s h1 h2 => by
    obtain ⟨s', rfl⟩ : ∃ s', s = 10 + s' := ⟨s - 10, by omega⟩
    rw [hrw s' (by omega)]
    have := h8.1 s'
    exact ⟨by omega, by omega⟩
  refine Ev_aload rfl rfl rfl ?_
  refine Ev_const rfl ?_
  refine Ev_aload rfl rfl rfl ?_
  refine Ev_getR rfl (by first | rfl | assumption) (hρ _ _ _ rfl) ?_
  refine Ev_callV rfl rfl rfl rfl rfl (same_n 402) (t_value (kk := 4) (a := 0) (b := cs.length) (k := 4) (R := R) (OrdO_of hρ (Or.inr (Or.inr rfl))) (by decide) (by rw [hall.1 321 4 (cV_k (by decide))]; exact hfr) (by rw [hall.1 322 4 (cV_k (by decide))]; exact hto) (Nat.zero_add _) (by omega) (fun p hp => o3 p hp (by omega)) hty (fun s _ => hse2 s) h9 hR8 (fun s hs9 ho => by rw [heq s hs9 ho]; exact hBd s hs9 ho) hB2) ?_
  rintro v71 ρ71 σ71 ⟨rfl, e71, f, hf⟩
  obtain rfl := e71.symm
  subst hf
  exact Ev_ireturn rfl rfl rfl rfl ⟨by rw [hcg], rfl, hall.tr (CF.cell _ f (fun j => by unfold cV; cases cL 323 j <;> rfl)), hRL.of9 (fun k k1 k2 k3 k4 k5 => sR_1 _ _ k2) hR8 (by rw [sR_1 _ _ (by decide)]; exact h9L)⟩
end S88zzl
