/-! A beach read by the class: cleared, finished. -/
theorem bit_t (s k : Nat) : s / 2 ^ k % 2 = 1 ↔ s.testBit k = true := by
  rw [Nat.testBit_eq_decide_div_mod_eq, decide_eq_true_eq]
/-- roots, as the class lays them: what is needed, and of that all roots -/
def roF (B : Bh) (i : Nat) : Nat → Nat
  | 0 => nee B i
  | m + 1 => if nee B i / 2 ^ m % 2 = 1 then roF B i m ||| roM B m else roF B i m
theorem roF_b (B : Bh) (i b : Nat) : ∀ m, (roF B i m).testBit b = true ↔ ((nee B i).testBit b = true ∨ ∃ j, j < m ∧ (nee B i).testBit j = true ∧ (roM B j).testBit b = true) := by
  intro m
  induction m with
  | zero => exact ⟨Or.inl, fun h => h.elim id (fun ⟨j, hj, _⟩ => absurd hj (Nat.not_lt_zero j))⟩
  | succ m ih =>
    show (if nee B i / 2 ^ m % 2 = 1 then roF B i m ||| roM B m else roF B i m).testBit b = true ↔ _
    by_cases hc : nee B i / 2 ^ m % 2 = 1
    · rw [if_pos hc, Nat.testBit_or, Bool.or_eq_true, ih]
      have hc := (bit_t _ _).mp hc
      constructor
      · rintro ((h | ⟨j, h1, h2⟩) | h)
        · exact Or.inl h
        · exact Or.inr ⟨j, by omega, h2⟩
        · exact Or.inr ⟨m, by omega, hc, h⟩
      · rintro (h | ⟨j, h1, h2, h3⟩)
        · exact Or.inl (Or.inl h)
        · by_cases hz : j = m
          · subst hz; exact Or.inr h3
          · exact Or.inl (Or.inr ⟨j, by omega, h2, h3⟩)
    · rw [if_neg hc, ih]
      have hc : ¬ (nee B i).testBit m = true := fun z => hc ((bit_t _ _).mpr z)
      constructor
      · rintro (h | ⟨j, h1, h2⟩)
        · exact Or.inl h
        · exact Or.inr ⟨j, by omega, h2⟩
      · rintro (h | ⟨j, h1, h2, h3⟩)
        · exact Or.inl h
        · by_cases hz : j = m
          · subst hz; exact absurd h2 hc
          · exact Or.inr ⟨j, by omega, h2, h3⟩
theorem rfRo_b (B : Bh) (b : Nat) : ∀ k s, (rfRo B k s).testBit b = true ↔ (s.testBit b = true ∨ ∃ j, j < k ∧ s.testBit j = true ∧ (roM B j).testBit b = true) := by
  intro k
  induction k with
  | zero => intro s; exact ⟨Or.inl, fun h => h.elim id (fun ⟨j, hj, _⟩ => absurd hj (Nat.not_lt_zero j))⟩
  | succ k ih =>
    intro s
    show (rfRo B k (if s / 2 ^ k % 2 = 1 then s ||| nee B k else s)).testBit b = true ↔ _
    by_cases hc : s / 2 ^ k % 2 = 1
    · rw [if_pos hc, ih]
      have hc := (bit_t _ _).mp hc
      have hr : (roM B k).testBit b = true ↔ ((nee B k).testBit b = true ∨ ∃ j, j < k ∧ (nee B k).testBit j = true ∧ (roM B j).testBit b = true) := ih (nee B k)
      simp only [Nat.testBit_or, Bool.or_eq_true]
      constructor
      · rintro ((h | h) | ⟨j, h1, h2 | h2, h3⟩)
        · exact Or.inl h
        · exact Or.inr ⟨k, by omega, hc, hr.mpr (Or.inl h)⟩
        · exact Or.inr ⟨j, by omega, h2, h3⟩
        · exact Or.inr ⟨k, by omega, hc, hr.mpr (Or.inr ⟨j, h1, h2, h3⟩)⟩
      · rintro (h | ⟨j, h1, h2, h3⟩)
        · exact Or.inl (Or.inl h)
        · by_cases hz : j = k
          · subst hz
            rcases hr.mp h3 with g | ⟨j', g1, g2, g3⟩
            · exact Or.inl (Or.inr g)
            · exact Or.inr ⟨j', g1, Or.inr g2, g3⟩
          · exact Or.inr ⟨j, by omega, Or.inl h2, h3⟩
    · rw [if_neg hc, ih]
      have hc : ¬ s.testBit k = true := fun z => hc ((bit_t _ _).mpr z)
      constructor
      · rintro (h | ⟨j, h1, h2⟩)
        · exact Or.inl h
        · exact Or.inr ⟨j, by omega, h2⟩
      · rintro (h | ⟨j, h1, h2, h3⟩)
        · exact Or.inl h
        · by_cases hz : j = k
          · subst hz; exact absurd h2 hc
          · exact Or.inr ⟨j, by omega, h2, h3⟩
theorem roF_M (B : Bh) (i : Nat) : roF B i i = roM B i := by
  refine Nat.eq_of_testBit_eq (fun b => ?_)
  have h1 := roF_b B i b i
  have h2 : (roM B i).testBit b = true ↔ _ := rfRo_b B b i (nee B i)
  cases ha : (roF B i i).testBit b with
  | true => exact ((h2.mpr (h1.mp ha))).symm
  | false =>
    cases hb : (roM B i).testBit b with
    | false => rfl
    | true => rw [h1.mpr (h2.mp hb)] at ha; cases ha
/-- the formulas of a beach that is being finished: so many kinds are -/
def CFi (σ : St) (q : Nat) (B : Bh) (m sz : Nat) : Prop := ∀ k, k < 4 → if k < m ∨ frm B k ≠ none then (∃ a b, σ.1 (q + 12) k = nI a ∧ σ.1 (q + 13) k = nI b ∧ a + (cod B k).length = b ∧ b ≤ sz ∧ ∀ j, j < (cod B k).length → σ.1 (q + 11) (a + j) = nI (cc ((cod B k).getD j 0))) else σ.1 (q + 12) k = -1
theorem CNf.fi {σ : St} {q : Nat} {B : Bh} (H : CNf σ q B) : CFi σ q B 0 (flen B) := by
  intro k hk
  have g := H k hk
  cases hf : frm B k with
  | none => rw [hf] at g; rw [if_neg (fun z => z.elim (Nat.not_lt_zero k) (fun w => w rfl))]; exact g
  | some cs =>
    rw [hf] at g
    rw [if_pos (Or.inr (fun z => by cases z))]
    have e : cod B k = cs := by unfold cod; rw [hf]
    rw [e]
    exact g
/-- how many orders there are, so many kinds finished -/
def unL (B : Bh) (m : Nat) : Nat := match frm B m with
  | none => (unt m).length
  | some _ => 0
def szU (B : Bh) : Nat → Nat
  | 0 => flen B
  | m + 1 => szU B m + unL B m
theorem unL_le (B : Bh) (m : Nat) : unL B m ≤ (unt m).length := by
  unfold unL
  split
  · exact Nat.le_refl _
  · exact Nat.zero_le _
theorem szU_4 (B : Bh) : szU B 4 ≤ flen B + 12 := by
  have h0 := unL_le B 0
  have h1 := unL_le B 1
  have h2 := unL_le B 2
  have h3 := unL_le B 3
  have e0 : (unt 0).length = 1 := rfl
  have e1 : (unt 1).length = 7 := rfl
  have e2 : (unt 2).length = 3 := rfl
  have e3 : (unt 3).length = 1 := rfl
  show flen B + unL B 0 + unL B 1 + unL B 2 + unL B 3 ≤ _
  omega
theorem szU_up (B : Bh) : ∀ m, m ≤ 4 → szU B m ≤ flen B + 12 := by
  intro m hm
  have h4 := szU_4 B
  have hs : ∀ m, szU B m ≤ szU B (m + 1) := fun m => Nat.le_add_right _ _
  have := hs 0
  have := hs 1
  have := hs 2
  have := hs 3
  rcases (by omega : m = 0 ∨ m = 1 ∨ m = 2 ∨ m = 3 ∨ m = 4) with rfl | rfl | rfl | rfl | rfl
  · exact Nat.le_trans (hs 0) (Nat.le_trans (hs 1) (Nat.le_trans (hs 2) (Nat.le_trans (hs 3) h4)))
  · exact Nat.le_trans (hs 1) (Nat.le_trans (hs 2) (Nat.le_trans (hs 3) h4))
  · exact Nat.le_trans (hs 2) (Nat.le_trans (hs 3) h4)
  · exact Nat.le_trans (hs 3) h4
  · exact h4
/-- what is told so far but for the formulas and their orders; roots of so many ideas -/
def CFn (σ : St) (q : Nat) (B : Bh) (m : Nat) : Prop := CNum σ q B ∧ CNi σ q B ∧ CNb σ q B ∧ CNp σ q B ∧ ∀ i, i < m → σ.1 (q + 4) i = nI (roM B i)
theorem CFn.eq {σ σ' : St} {q m : Nat} {B : Bh} (H : CFn σ q B m) (h : ∀ r, r ≤ 9 → σ'.1 (q + r) = σ.1 (q + r)) : CFn σ' q B m := by
  obtain ⟨h1, h2, h3, h4, h5⟩ := H
  refine ⟨?_, fun i hi => ?_, fun b hb => ?_, fun k hk => ?_, fun i hi => ?_⟩
  · unfold CNum; rw [show σ'.1 q = σ.1 q from h 0 (by decide)]; exact h1
  · rw [h 1 (by decide), h 2 (by decide), h 3 (by decide)]; exact h2 i hi
  · rw [h 5 (by decide), h 6 (by decide), h 7 (by decide)]; exact h3 b hb
  · rw [h 8 (by decide), h 9 (by decide)]; exact h4 k hk
  · rw [h 4 (by decide)]; exact h5 i hi
section S88zzf
variable {l : Launch} {X : Cx} {ρ : Rf} {U : Tx} {q : Nat} {B : Bh}
/-- what clearing orders touches -/
def cCl (O k j : Nat) : Bool := (Nat.beq k O && Nat.beq j 4) || Nat.beq k (O + 2) || Nat.beq k (O + 3)
theorem cCl_f {O k j : Nat} (h1 : k ≠ O ∨ j ≠ 4) (h2 : k ≠ O + 2) (h3 : k ≠ O + 3) : cCl O k j = false := by
  unfold cCl
  rw [nbeq h2, nbeq h3]
  rcases h1 with h1 | h1
  · rw [nbeq h1]; rfl
  · rw [nbeq h1, Bool.and_false]; rfl
theorem t_ordClear (d : Nat) {σ : St} {O : Nat} (hρ : RF ρ) (hO : OkO O) :
    T l X d 65 [.ref O] 402 402 ρ σ (fun v ρ' σ' => v = none ∧ ρ' = ρ ∧ σ'.1 O 4 = nI 0 ∧ (∀ j, j < 5 → σ'.1 (O + 2) j = -1) ∧ CF (cCl O) σ σ') := by
  have o := OrdO_of hρ hO
  have y0 : cCl O O 4 = true := by unfold cCl; rw [Nat.beq_refl]; rfl
  have y2 : ∀ j, cCl O (O + 2) j = true := fun j => by unfold cCl; rw [Nat.beq_refl, Bool.or_true]; rfl
  have y3 : ∀ j, cCl O (O + 3) j = true := fun j => by unfold cCl; rw [Nat.beq_refl]; exact Bool.or_true _
  have loop : ∀ (m k : Nat) (σ1 : St), k + m = 5 → σ1.1 O 4 = nI 0 → (∀ j, j < k → σ1.1 (O + 2) j = -1) → CF (cCl O) σ σ1 →
      Ev l X d 65 7 [.ref O, .int (nI k)] [] 402 402 402 ρ σ1 (fun v ρ' σ' => v = none ∧ ρ' = ρ ∧ σ'.1 O 4 = nI 0 ∧ (∀ j, j < 5 → σ'.1 (O + 2) j = -1) ∧ CF (cCl O) σ σ') := by
    intro m
    induction m with
    | zero =>
      intro k σ1 hm h2 h3 hc
      obtain rfl : k = 5 := by omega
      refine Ev_iload rfl rfl ?_
      refine Ev_const rfl ?_
      refine Ev_icmp_ge rfl (fun h9 => ?_) (fun h9 => absurd (nI_le (a := 5) (b := 5) (by omega) (by omega)) h9)
      exact Ev_return rfl rfl rfl ⟨rfl, rfl, h2, h3, hc⟩
    | succ m ih =>
      intro k σ1 hm h2 h3 hc
      refine Ev_iload rfl rfl ?_
      refine Ev_const rfl ?_
      refine Ev_icmp_ge rfl (fun h9 => absurd h9 (nI_ge (b := 5) (by omega) (by omega))) (fun h9 => ?_)
      refine Ev_aload rfl rfl rfl ?_
      refine Ev_getR rfl o.1 o.2.2.2.2.2.2.2.2.2.2.1 ?_
      refine Ev_iload rfl rfl ?_
      refine Ev_const rfl ?_
      refine Ev_iast rfl o.2.2.2.2.2.2.2.2.1 (by rw [o.2.2.2.2.2.2.2.2.2.1]; exact vp_in_nI (n := k) (show k < 5 by omega) (by decide)) ?_
      refine Ev_aload rfl rfl rfl ?_
      refine Ev_getR rfl o.1 o.2.2.2.2.2.2.2.2.2.2.2.2.2 ?_
      refine Ev_iload rfl rfl ?_
      refine Ev_const rfl ?_
      refine Ev_iast rfl o.2.2.2.2.2.2.2.2.2.2.2.1 (by rw [o.2.2.2.2.2.2.2.2.2.2.2.2.1]; exact vp_in_nI (n := k) (show k < 5 by omega) (by decide)) ?_
      refine Ev_iincE rfl rfl (nI_1 k) ?_
      refine Ev_goto rfl ?_
      rw [nI_clamp (show k < 2 ^ 31 by omega)]
      refine ih (k + 1) _ (by omega) ?_ (fun j hj => ?_) ((hc.tr (CF.cell _ _ y2)).tr (CF.cell _ _ y3))
      · rw [sR_1 _ _ (by omega), sR_1 _ _ (by omega)]; exact h2
      · rw [sR_1 _ _ (by omega), sR_0]
        by_cases hz : j = k
        · rw [hz, pk_us]
        · rw [pk_un hz]; exact h3 j (by omega)
  refine T_of rfl ?_
  refine Ev_aload rfl rfl rfl ?_
  refine Ev_const rfl ?_
  refine Ev_putI rfl o.1 ⟨rfl, rfl⟩ rfl ?_
  refine Ev_const rfl ?_
  refine Ev_istore rfl ?_
  exact loop 5 0 _ rfl (by rw [sR_0, pk_us]; rfl) (fun j hj => absurd hj (Nat.not_lt_zero j)) (CF.put _ _ y0)
theorem t_clearB (d : Nat) {σ : St} (hq : q = 2 ∨ q = 17) (hρ : RF ρ) :
    T l X (d + 1) 1 [.ref q] 402 402 ρ σ (fun v ρ' σ' => v = none ∧ ρ' = ρ ∧ CNew σ' q B00 ∧ CF (fun k _ => cBq q k) σ σ') := by
  obtain ⟨bO, -, -, -, -, ro, io⟩ := bo hq hρ
  have hOk : OkO (q + 10) := by rcases hq with rfl | rfl; exact Or.inl rfl; exact Or.inr (Or.inl rfl)
  have c0 : ∀ (s : St) (f : Nat → Int32), CF (fun k _ => cBq q k) s (sI s q f) := fun s f => cf_cell (r := 0) f (by decide)
  have hcl : ∀ {s s' : St}, CF (cCl (q + 10)) s s' → CF (fun k _ => cBq q k) s s' := fun h => h.wk (fun k j z => by
    have := cBq_f z
    exact cCl_f (Or.inl (by omega)) (by omega) (by omega))
  refine T_of rfl ?_
  refine Ev_aload rfl rfl rfl ?_
  refine Ev_const rfl ?_
  refine Ev_putI rfl (by first | rfl | assumption) ⟨rfl, rfl⟩ rfl ?_
  refine Ev_aload rfl rfl rfl ?_
  refine Ev_const rfl ?_
  refine Ev_putI rfl (by first | rfl | assumption) ⟨rfl, rfl⟩ rfl ?_
  refine Ev_aload rfl rfl rfl ?_
  refine Ev_const rfl ?_
  refine Ev_putI rfl (by first | rfl | assumption) ⟨rfl, rfl⟩ rfl ?_
  refine Ev_aload rfl rfl rfl ?_
  refine Ev_const rfl ?_
  refine Ev_putI rfl (by first | rfl | assumption) ⟨rfl, rfl⟩ rfl ?_
  refine Ev_aload rfl rfl rfl ?_
  refine Ev_const rfl ?_
  refine Ev_putI rfl (by first | rfl | assumption) ⟨rfl, rfl⟩ rfl ?_
  refine Ev_aload rfl rfl rfl ?_
  refine Ev_getR rfl (by first | rfl | assumption) (by first | exact hρ rfl | assumption) ?_
  refine Ev_callV rfl rfl rfl io rfl (same_n 402) (t_ordClear _ hρ hOk) ?_
  rintro v29 ρ29 σ29 ⟨rfl, e29, z29, f29, c29⟩
  obtain rfl := e29.symm
  exact Ev_return rfl rfl rfl (by
  have e0 : ∀ j, σ29.1 q j = _ := fun j => c29.1 q j (cCl_f (Or.inl (by omega)) (by omega) (by omega))
  refine ⟨rfl, rfl, ⟨⟨?_, ?_, ?_, ?_, ?_⟩, fun i hi => absurd hi (Nat.not_lt_zero i), fun i hi => absurd hi (Nat.not_lt_zero i), fun i hi => absurd hi (Nat.not_lt_zero i), fun k hk => f29 k (by omega), z29⟩, (((((c0 _ _).tr (c0 _ _)).tr (c0 _ _)).tr (c0 _ _)).tr (c0 _ _)).tr (hcl c29)⟩
  · rw [e0, sR_0, pk_un (by decide), sR_0, pk_un (by decide), sR_0, pk_un (by decide), sR_0, pk_un (by decide), sR_0, pk_us]; rfl
  · rw [e0, sR_0, pk_un (by decide), sR_0, pk_un (by decide), sR_0, pk_un (by decide), sR_0, pk_us]; rfl
  · rw [e0, sR_0, pk_un (by decide), sR_0, pk_un (by decide), sR_0, pk_us]; rfl
  · rw [e0, sR_0, pk_un (by decide), sR_0, pk_us]; rfl
  · rw [e0, sR_0, pk_us]; rfl)
theorem t_addUntold (d : Nat) {σ : St} {bs k : Nat} (hq : q = 2 ∨ q = 17) (hρ : RF ρ) (hk : k < 4) (H : COr σ (q + 10) bs []) :
    T l X (d + 2) 9 [.ref q, .int (nI k)] 402 402 ρ σ (fun v ρ' σ' => v = none ∧ ρ' = ρ ∧ COr σ' (q + 10) bs (unt k) ∧ CF (cOr (q + 10) bs) σ σ') := by
  obtain ⟨bO, -, -, -, -, ro, io⟩ := bo hq hρ
  have hO : OkO (q + 10) := by rcases hq with rfl | rfl; exact Or.inl rfl; exact Or.inr (Or.inl rfl)
  have hi : (nI k).toInt = (k : Int) := nI_toInt (by omega)
  have add : ∀ {σ : St} {out : List Nat} {t : Nat}, cc t = t → COr σ (q + 10) bs out → T l X (d + 1) 69 [.ref (q + 10), .int (nI t)] 402 402 ρ σ (fun v ρ' σ' => v = none ∧ ρ' = ρ ∧ COr σ' (q + 10) bs (out ++ [t]) ∧ CF (cOr (q + 10) bs) σ σ') := fun {σ out t} ht h => by
    have := t_add (l := l) (X := X) (d + 1) (t := t) hρ hO h
    rw [ht] at this
    exact this
  rcases (by omega : k = 0 ∨ k = 1 ∨ k = 2 ∨ k = 3) with rfl | rfl | rfl | rfl
  · refine T_of rfl ?_
    refine Ev_iload rfl rfl ?_
    refine Ev_tab rfl rfl (swP_c (fun h1_0 => ?_) (fun g1_0 => swP_c (fun h1_1 => ?_) (fun g1_1 => swP_c (fun h1_2 => ?_) (fun g1_2 => swP_n ?_))))
    · refine Ev_aload rfl rfl rfl ?_
      refine Ev_getR rfl (by first | rfl | assumption) (by first | exact hρ rfl | assumption) ?_
      refine Ev_const rfl ?_
      refine Ev_callV rfl rfl rfl io rfl (same_n 402) (t_addNumber _ (v := 9) hρ hO (by decide) H) ?_
      rintro v34 ρ34 σ34 ⟨rfl, e34, s34, c34⟩
      obtain rfl := e34.symm
      refine Ev_goto rfl ?_
      exact Ev_return rfl rfl rfl ⟨rfl, rfl, s34, c34⟩
    · exact absurd (h1_1 : (0 : Int) = 1) (by decide)
    · exact absurd (h1_2 : (0 : Int) = 2) (by decide)
    · exact absurd (rfl : (nI 0).toInt = 0) g1_0
  · refine T_of rfl ?_
    refine Ev_iload rfl rfl ?_
    refine Ev_tab rfl rfl (swP_c (fun h1_0 => ?_) (fun g1_0 => swP_c (fun h1_1 => ?_) (fun g1_1 => swP_c (fun h1_2 => ?_) (fun g1_2 => swP_n ?_))))
    · exact absurd (h1_0 : (1 : Int) = 0) (by decide)
    · refine Ev_aload rfl rfl rfl ?_
      refine Ev_getR rfl (by first | rfl | assumption) (by first | exact hρ rfl | assumption) ?_
      refine Ev_const rfl ?_
      refine Ev_callV rfl rfl rfl io rfl (same_n 402) (t_addNumber _ (v := 20) hρ hO (by decide) H) ?_
      rintro v46 ρ46 σ46 ⟨rfl, e46, s46, c46⟩
      obtain rfl := e46.symm
      refine Ev_aload rfl rfl rfl ?_
      refine Ev_getR rfl (by first | rfl | assumption) (by first | exact hρ rfl | assumption) ?_
      refine Ev_const rfl ?_
      refine Ev_callV rfl rfl rfl io rfl (same_n 402) (add (t := 2) rfl s46) ?_
      rintro v54 ρ54 σ54 ⟨rfl, e54, s54, c54⟩
      obtain rfl := e54.symm
      refine Ev_aload rfl rfl rfl ?_
      refine Ev_getR rfl (by first | rfl | assumption) (by first | exact hρ rfl | assumption) ?_
      refine Ev_const rfl ?_
      refine Ev_callV rfl rfl rfl io rfl (same_n 402) (t_addNumber _ (v := 5) hρ hO (by decide) s54) ?_
      rintro v62 ρ62 σ62 ⟨rfl, e62, s62, c62⟩
      obtain rfl := e62.symm
      refine Ev_aload rfl rfl rfl ?_
      refine Ev_getR rfl (by first | rfl | assumption) (by first | exact hρ rfl | assumption) ?_
      refine Ev_const rfl ?_
      refine Ev_callV rfl rfl rfl io rfl (same_n 402) (add (t := 38) rfl s62) ?_
      rintro v71 ρ71 σ71 ⟨rfl, e71, s71, c71⟩
      obtain rfl := e71.symm
      refine Ev_aload rfl rfl rfl ?_
      refine Ev_getR rfl (by first | rfl | assumption) (by first | exact hρ rfl | assumption) ?_
      refine Ev_const rfl ?_
      refine Ev_callV rfl rfl rfl io rfl (same_n 402) (add (t := 36) rfl s71) ?_
      rintro v80 ρ80 σ80 ⟨rfl, e80, s80, c80⟩
      obtain rfl := e80.symm
      refine Ev_aload rfl rfl rfl ?_
      refine Ev_getR rfl (by first | rfl | assumption) (by first | exact hρ rfl | assumption) ?_
      refine Ev_const rfl ?_
      refine Ev_callV rfl rfl rfl io rfl (same_n 402) (add (t := 1) rfl s80) ?_
      rintro v88 ρ88 σ88 ⟨rfl, e88, s88, c88⟩
      obtain rfl := e88.symm
      refine Ev_aload rfl rfl rfl ?_
      refine Ev_getR rfl (by first | rfl | assumption) (by first | exact hρ rfl | assumption) ?_
      refine Ev_const rfl ?_
      refine Ev_callV rfl rfl rfl io rfl (same_n 402) (add (t := 37) rfl s88) ?_
      rintro v97 ρ97 σ97 ⟨rfl, e97, s97, c97⟩
      obtain rfl := e97.symm
      refine Ev_goto rfl ?_
      exact Ev_return rfl rfl rfl ⟨rfl, rfl, s97, ((((((c46.tr c54).tr c62).tr c71).tr c80).tr c88).tr c97)⟩
    · exact absurd (h1_2 : (1 : Int) = 2) (by decide)
    · exact absurd (rfl : (nI 1).toInt = 1) g1_1
  · refine T_of rfl ?_
    refine Ev_iload rfl rfl ?_
    refine Ev_tab rfl rfl (swP_c (fun h1_0 => ?_) (fun g1_0 => swP_c (fun h1_1 => ?_) (fun g1_1 => swP_c (fun h1_2 => ?_) (fun g1_2 => swP_n ?_))))
    · exact absurd (h1_0 : (2 : Int) = 0) (by decide)
    · exact absurd (h1_1 : (2 : Int) = 1) (by decide)
    · refine Ev_aload rfl rfl rfl ?_
      refine Ev_getR rfl (by first | rfl | assumption) (by first | exact hρ rfl | assumption) ?_
      refine Ev_const rfl ?_
      refine Ev_callV rfl rfl rfl io rfl (same_n 402) (add (t := 6) rfl H) ?_
      rintro v109 ρ109 σ109 ⟨rfl, e109, s109, c109⟩
      obtain rfl := e109.symm
      refine Ev_aload rfl rfl rfl ?_
      refine Ev_getR rfl (by first | rfl | assumption) (by first | exact hρ rfl | assumption) ?_
      refine Ev_const rfl ?_
      refine Ev_callV rfl rfl rfl io rfl (same_n 402) (t_addNumber _ (v := 1) hρ hO (by decide) s109) ?_
      rintro v117 ρ117 σ117 ⟨rfl, e117, s117, c117⟩
      obtain rfl := e117.symm
      refine Ev_aload rfl rfl rfl ?_
      refine Ev_getR rfl (by first | rfl | assumption) (by first | exact hρ rfl | assumption) ?_
      refine Ev_const rfl ?_
      refine Ev_callV rfl rfl rfl io rfl (same_n 402) (add (t := 37) rfl s117) ?_
      rintro v126 ρ126 σ126 ⟨rfl, e126, s126, c126⟩
      obtain rfl := e126.symm
      refine Ev_goto rfl ?_
      exact Ev_return rfl rfl rfl ⟨rfl, rfl, s126, (c109.tr c117).tr c126⟩
    · exact absurd (rfl : (nI 2).toInt = 2) g1_2
  · refine T_of rfl ?_
    refine Ev_iload rfl rfl ?_
    refine Ev_tab rfl rfl (swP_c (fun h1_0 => ?_) (fun g1_0 => swP_c (fun h1_1 => ?_) (fun g1_1 => swP_c (fun h1_2 => ?_) (fun g1_2 => swP_n ?_))))
    · exact absurd (h1_0 : (3 : Int) = 0) (by decide)
    · exact absurd (h1_1 : (3 : Int) = 1) (by decide)
    · exact absurd (h1_2 : (3 : Int) = 2) (by decide)
    · refine Ev_aload rfl rfl rfl ?_
      refine Ev_getR rfl (by first | rfl | assumption) (by first | exact hρ rfl | assumption) ?_
      refine Ev_const rfl ?_
      refine Ev_callV rfl rfl rfl io rfl (same_n 402) (t_addNumber _ (v := 1) hρ hO (by decide) H) ?_
      rintro v137 ρ137 σ137 ⟨rfl, e137, s137, c137⟩
      obtain rfl := e137.symm
      exact Ev_return rfl rfl rfl ⟨rfl, rfl, s137, c137⟩
/-- roots, whatever is told -/
theorem t_rootsR (d : Nat) {σ0 : St} {n : Nat} (hq : q = 2 ∨ q = 17) (hρ : RF ρ) (hn : n ≤ 8) {Q : Po} (hQ : ∀ σ' L L2, (∀ r, r ≤ 14 → r ≠ 4 → σ'.1 (q + r) = σ0.1 (q + r)) → CF (fun k _ => cBq q k) σ0 σ' → Ev l X d 8 69 [.ref q, L, L2] [] 402 402 402 ρ σ' Q) :
    ∀ (m i : Nat) (σ : St) (L2 : Value), i + m = n → σ.1 q 10 = nI n → (∀ r, r ≤ 14 → r ≠ 4 → σ.1 (q + r) = σ0.1 (q + r)) → CF (fun k _ => cBq q k) σ0 σ → Ev l X d 8 2 [.ref q, .int (nI i), L2] [] 402 402 402 ρ σ Q := by
  obtain ⟨bO, ⟨-, -, ⟨a3, s3, r3⟩, ⟨a4, s4, r4⟩⟩, -⟩ := bo hq hρ
  intro m
  induction m with
  | zero =>
    intro i σ L2 hm hi hr hc
    refine Ev_iload rfl rfl ?_
    refine Ev_aload rfl rfl rfl ?_
    refine Ev_getI rfl (by first | rfl | assumption) ?_
    refine Ev_norm hi ?_
    refine Ev_icmp_ge rfl (fun h7 => ?_) (fun h7 => absurd (nI_le (by omega) (by omega)) h7)
    exact hQ σ _ _ hr hc
  | succ m ih =>
    intro i σ L2 hm hi hr hc
    have inner : ∀ (w j : Nat) (σ1 : St), j + w = i → σ1.1 q 10 = nI n → (∀ r, r ≤ 14 → r ≠ 4 → σ1.1 (q + r) = σ0.1 (q + r)) → CF (fun k _ => cBq q k) σ0 σ1 → Ev l X d 8 24 [.ref q, .int (nI i), .int (nI j)] [] 402 402 402 ρ σ1 Q := by
      intro w
      induction w with
      | zero =>
        intro j σ1 hw h1 h2 h3
        refine Ev_iload rfl rfl ?_
        refine Ev_iload rfl rfl ?_
        refine Ev_icmp_ge rfl (fun h26 => ?_) (fun h26 => absurd (nI_le (by omega) (by omega)) h26)
        refine Ev_iincE rfl rfl (nI_1 i) ?_
        refine Ev_goto rfl ?_
        exact ih (i + 1) σ1 _ (by omega) h1 h2 h3
      | succ w ihw =>
        intro j σ1 hw h1 h2 h3
        refine Ev_iload rfl rfl ?_
        refine Ev_iload rfl rfl ?_
        refine Ev_icmp_ge rfl (fun h26 => absurd h26 (nI_ge (by omega) (by omega))) (fun h26 => ?_)
        refine Ev_aload rfl rfl rfl ?_
        refine Ev_getR rfl (by first | rfl | assumption) (by first | exact hρ rfl | assumption) ?_
        refine Ev_iload rfl rfl ?_
        refine Ev_iald rfl (by first | rfl | assumption) (by rw [s3]; exact vp_in_nI (n := i) (show i < 8 by omega) (by decide)) ?_
        refine Ev_iload rfl rfl ?_
        refine Ev_ishr rfl ?_
        refine Ev_const rfl ?_
        refine Ev_iand rfl ?_
        refine Ev_if_eq rfl (fun h39 => ?_) (fun h39 => ?_)
        · refine Ev_iincE rfl rfl (nI_1 j) ?_
          refine Ev_goto rfl ?_
          exact ihw (j + 1) σ1 (by omega) h1 h2 h3
        · refine Ev_aload rfl rfl rfl ?_
          refine Ev_getR rfl (by first | rfl | assumption) (by first | exact hρ rfl | assumption) ?_
          refine Ev_iload rfl rfl ?_
          refine Ev_dup2 rfl (fun _ q => nomatch q) (fun _ q => nomatch q) ?_
          refine Ev_iald rfl (by first | rfl | assumption) (by rw [s4]; exact vp_in_nI (n := i) (show i < 8 by omega) (by decide)) ?_
          refine Ev_aload rfl rfl rfl ?_
          refine Ev_getR rfl (by first | rfl | assumption) (by first | exact hρ rfl | assumption) ?_
          refine Ev_iload rfl rfl ?_
          refine Ev_iald rfl (by first | rfl | assumption) (by rw [s4]; exact vp_in_nI (n := j) (show j < 8 by omega) (by decide)) ?_
          refine Ev_ior rfl ?_
          refine Ev_iast rfl (by first | rfl | assumption) (by rw [s4]; exact vp_in_nI (n := i) (show i < 8 by omega) (by decide)) ?_
          refine Ev_iincE rfl rfl (nI_1 j) ?_
          refine Ev_goto rfl ?_
          refine ihw (j + 1) _ (by omega) (by rw [sR_1 _ _ (by omega)]; exact h1) (fun r hr1 hr2 => by rw [sR_1 _ _ (by omega)]; exact h2 r hr1 hr2) (h3.tr (cf_cell _ (by decide)))
    refine Ev_iload rfl rfl ?_
    refine Ev_aload rfl rfl rfl ?_
    refine Ev_getI rfl (by first | rfl | assumption) ?_
    refine Ev_norm hi ?_
    refine Ev_icmp_ge rfl (fun h7 => absurd h7 (nI_ge (by omega) (by omega))) (fun h7 => ?_)
    refine Ev_aload rfl rfl rfl ?_
    refine Ev_getR rfl (by first | rfl | assumption) (by first | exact hρ rfl | assumption) ?_
    refine Ev_iload rfl rfl ?_
    refine Ev_aload rfl rfl rfl ?_
    refine Ev_getR rfl (by first | rfl | assumption) (by first | exact hρ rfl | assumption) ?_
    refine Ev_iload rfl rfl ?_
    refine Ev_iald rfl (by first | rfl | assumption) (by rw [s3]; exact vp_in_nI (n := i) (show i < 8 by omega) (by decide)) ?_
    refine Ev_iast rfl (by first | rfl | assumption) (by rw [s4]; exact vp_in_nI (n := i) (show i < 8 by omega) (by decide)) ?_
    refine Ev_const rfl ?_
    refine Ev_istore rfl ?_
    refine inner i 0 _ (Nat.zero_add _) (by rw [sR_1 _ _ (by omega)]; exact hi) (fun r hr1 hr2 => by rw [sR_1 _ _ (by omega)]; exact hr r hr1 hr2) (hc.tr (cf_cell _ (by decide)))
/-- roots, where all is well told -/
theorem t_rootsX (d : Nat) {σ0 : St} (hq : q = 2 ∨ q = 17) (hρ : RF ρ) (hB : WfB B) {Q : Po} (hQ : ∀ σ' L L2, CFn σ' q B (ni B) → (∀ r, r ≤ 14 → r ≠ 4 → σ'.1 (q + r) = σ0.1 (q + r)) → CF (fun k _ => cBq q k) σ0 σ' → Ev l X d 8 69 [.ref q, L, L2] [] 402 402 402 ρ σ' Q) :
    ∀ (m i : Nat) (σ : St) (L2 : Value), i + m = ni B → CFn σ q B i → (∀ r, r ≤ 14 → r ≠ 4 → σ.1 (q + r) = σ0.1 (q + r)) → CF (fun k _ => cBq q k) σ0 σ → Ev l X d 8 2 [.ref q, .int (nI i), L2] [] 402 402 402 ρ σ Q := by
  obtain ⟨bO, ⟨-, -, ⟨a3, s3, r3⟩, ⟨a4, s4, r4⟩⟩, -⟩ := bo hq hρ
  have h8 := hB.1.1
  have up : ∀ {σ : St} {i : Nat} (f : Nat → Int32), CFn σ q B i → (∀ j, j < i → f j = nI (roM B j)) → CFn (sI σ (q + 4) f) q B i := fun {σ i} f h hf => by
    obtain ⟨g1, g2, g3, g4, g5⟩ := h
    have e : ∀ r, r ≠ 4 → (sI σ (q + 4) f).1 (q + r) = σ.1 (q + r) := fun r hr => sR_1 _ _ (by omega)
    refine ⟨?_, fun i hi => ?_, fun b hb => ?_, fun k hk => ?_, fun i hi => ?_⟩
    · unfold CNum; rw [show (sI σ (q + 4) f).1 q = σ.1 q from e 0 (by decide)]; exact g1
    · rw [e 1 (by decide), e 2 (by decide), e 3 (by decide)]; exact g2 i hi
    · rw [e 5 (by decide), e 6 (by decide), e 7 (by decide)]; exact g3 b hb
    · rw [e 8 (by decide), e 9 (by decide)]; exact g4 k hk
    · rw [sR_0]; exact hf i hi
  intro m
  induction m with
  | zero =>
    intro i σ L2 hm hN hr hc
    refine Ev_iload rfl rfl ?_
    refine Ev_aload rfl rfl rfl ?_
    refine Ev_getI rfl (by first | rfl | assumption) ?_
    refine Ev_norm hN.1.1 ?_
    refine Ev_icmp_ge rfl (fun h7 => ?_) (fun h7 => absurd (nI_le (by omega) (by omega)) h7)
    rw [show i = ni B by omega] at hN
    exact hQ σ _ _ hN hr hc
  | succ m ih =>
    intro i σ L2 hm hN hr hc
    have hi8 : i < 8 := by omega
    have hnee : nee B i < 256 := (hB.2.1.1 i (by omega)).2
    have inner : ∀ (w j : Nat) (σ1 : St), j + w = i → CFn σ1 q B i → σ1.1 (q + 4) i = nI (roF B i j) → (∀ r, r ≤ 14 → r ≠ 4 → σ1.1 (q + r) = σ0.1 (q + r)) → CF (fun k _ => cBq q k) σ0 σ1 → Ev l X d 8 24 [.ref q, .int (nI i), .int (nI j)] [] 402 402 402 ρ σ1 Q := by
      intro w
      induction w with
      | zero =>
        intro j σ1 hw h1 h2 h3 h4
        obtain rfl : j = i := by omega
        refine Ev_iload rfl rfl ?_
        refine Ev_iload rfl rfl ?_
        refine Ev_icmp_ge rfl (fun h26 => ?_) (fun h26 => absurd (nI_le (by omega) (by omega)) h26)
        refine Ev_iincE rfl rfl (nI_1 j) ?_
        refine Ev_goto rfl ?_
        refine ih (j + 1) σ1 _ (by omega) ⟨h1.1, h1.2.1, h1.2.2.1, h1.2.2.2.1, fun k hk => ?_⟩ h3 h4
        by_cases hz : k = j
        · rw [hz, h2, roF_M]
        · exact h1.2.2.2.2 k (by omega)
      | succ w ihw =>
        intro j σ1 hw h1 h2 h3 h4
        have hro : roF B i (j + 1) = if nee B i / 2 ^ j % 2 = 1 then roF B i j ||| roM B j else roF B i j := rfl
        have hlt2 : nee B i / 2 ^ j % 2 < 2 := Nat.mod_lt _ (by decide)
        refine Ev_iload rfl rfl ?_
        refine Ev_iload rfl rfl ?_
        refine Ev_icmp_ge rfl (fun h26 => absurd h26 (nI_ge (by omega) (by omega))) (fun h26 => ?_)
        refine Ev_aload rfl rfl rfl ?_
        refine Ev_getR rfl (by first | rfl | assumption) (by first | exact hρ rfl | assumption) ?_
        refine Ev_iload rfl rfl ?_
        refine Ev_iald rfl (by first | rfl | assumption) (by rw [s3]; exact vp_in_nI (n := i) (show i < 8 by omega) (by decide)) ?_
        refine Ev_norm (by rw [nI_clamp (by omega)]; exact (h1.2.1 i (by omega)).2.2 : _ = nI (nee B i)) ?_
        refine Ev_iload rfl rfl ?_
        refine Ev_ishr rfl ?_
        refine Ev_const rfl ?_
        refine Ev_iand rfl ?_
        refine Ev_norm (sh_8 hnee (show j < 8 by omega)) ?_
        refine Ev_if_eq rfl (fun h39 => ?_) (fun h39 => ?_)
        · refine Ev_iincE rfl rfl (nI_1 j) ?_
          refine Ev_goto rfl ?_
          have hz : ¬ nee B i / 2 ^ j % 2 = 1 := fun z => by rw [z] at h39; exact absurd h39 (by decide)
          rw [if_neg hz] at hro
          exact ihw (j + 1) σ1 (by omega) h1 (by rw [hro]; exact h2) h3 h4
        · refine Ev_aload rfl rfl rfl ?_
          refine Ev_getR rfl (by first | rfl | assumption) (by first | exact hρ rfl | assumption) ?_
          refine Ev_iload rfl rfl ?_
          refine Ev_dup2 rfl (fun _ q => nomatch q) (fun _ q => nomatch q) ?_
          refine Ev_iald rfl (by first | rfl | assumption) (by rw [s4]; exact vp_in_nI (n := i) (show i < 8 by omega) (by decide)) ?_
          refine Ev_norm (by rw [nI_clamp (by omega)]; exact h2 : _ = nI (roF B i j)) ?_
          refine Ev_aload rfl rfl rfl ?_
          refine Ev_getR rfl (by first | rfl | assumption) (by first | exact hρ rfl | assumption) ?_
          refine Ev_iload rfl rfl ?_
          refine Ev_iald rfl (by first | rfl | assumption) (by rw [s4]; exact vp_in_nI (n := j) (show j < 8 by omega) (by decide)) ?_
          refine Ev_norm (by rw [nI_clamp (by omega)]; exact h1.2.2.2.2 j (by omega) : _ = nI (roM B j)) ?_
          refine Ev_ior rfl ?_
          refine Ev_norm (nI_or (roF B i j) (roM B j)) ?_
          refine Ev_iast rfl (by first | rfl | assumption) (by rw [s4]; exact vp_in_nI (n := i) (show i < 8 by omega) (by decide)) ?_
          refine Ev_iincE rfl rfl (nI_1 j) ?_
          refine Ev_goto rfl ?_
          have hz : nee B i / 2 ^ j % 2 = 1 := by
            rcases (by omega : nee B i / 2 ^ j % 2 = 0 ∨ nee B i / 2 ^ j % 2 = 1) with z | z
            · rw [z] at h39; exact absurd rfl h39
            · exact z
          rw [if_pos hz] at hro
          rw [nI_clamp (show i < 2 ^ 31 by omega)]
          refine ihw (j + 1) _ (by omega) (up _ h1 (fun k hk => by rw [pk_un (by omega)]; exact h1.2.2.2.2 k hk)) (by rw [sR_0, pk_us, hro]) (fun r hr1 hr2 => by rw [sR_1 _ _ (by omega)]; exact h3 r hr1 hr2) (h4.tr (cf_cell _ (by decide)))
    refine Ev_iload rfl rfl ?_
    refine Ev_aload rfl rfl rfl ?_
    refine Ev_getI rfl (by first | rfl | assumption) ?_
    refine Ev_norm hN.1.1 ?_
    refine Ev_icmp_ge rfl (fun h7 => absurd h7 (nI_ge (by omega) (by omega))) (fun h7 => ?_)
    refine Ev_aload rfl rfl rfl ?_
    refine Ev_getR rfl (by first | rfl | assumption) (by first | exact hρ rfl | assumption) ?_
    refine Ev_iload rfl rfl ?_
    refine Ev_aload rfl rfl rfl ?_
    refine Ev_getR rfl (by first | rfl | assumption) (by first | exact hρ rfl | assumption) ?_
    refine Ev_iload rfl rfl ?_
    refine Ev_iald rfl (by first | rfl | assumption) (by rw [s3]; exact vp_in_nI (n := i) (show i < 8 by omega) (by decide)) ?_
    refine Ev_norm (by rw [nI_clamp (by omega)]; exact (hN.2.1 i (by omega)).2.2 : _ = nI (nee B i)) ?_
    refine Ev_iast rfl (by first | rfl | assumption) (by rw [s4]; exact vp_in_nI (n := i) (show i < 8 by omega) (by decide)) ?_
    refine Ev_const rfl ?_
    refine Ev_istore rfl ?_
    rw [nI_clamp (show i < 2 ^ 31 by omega)]
    refine inner i 0 _ (Nat.zero_add _) (up _ hN (fun k hk => by rw [pk_un (by omega)]; exact hN.2.2.2.2 k hk)) (by rw [sR_0, pk_us]; rfl) (fun r hr1 hr2 => by rw [sR_1 _ _ (by omega)]; exact hr r hr1 hr2) (hc.tr (cf_cell _ (by decide)))
end S88zzf
