/-! What always holds, at the start. -/
def A00 : Ab := mkA B00 (Mo0 B00) (0, fun _ => Mo0 B00) (0, fun _ => 0) 1 (0, fun _ => 0) (fun _ => 0) (0, -1) (0, fun _ => 0)
theorem wf_A00 : WfA A00 := ⟨wf_B00, WfM_0 wf_B00, ⟨Nat.zero_le _, fun k hk => absurd hk (Nat.not_lt_zero k)⟩, ⟨Nat.zero_le _, fun k hk => absurd hk (Nat.not_lt_zero k)⟩, by decide, ⟨Nat.zero_le _, fun _ => show 0 < 256 by decide⟩, ⟨Nat.zero_le _, fun _ => show 0 < 256 by decide⟩⟩
def fr0 : List Nat := [0, 1, 8, 11]
def to0 : List Nat := [1, 8, 11, 12]
/-- what the class's cells hold -/
def StC0 (ρ : Rf) (σ : St) : Prop := (∀ k, k < 4 → σ.1 14 k = nI (fr0.getD k 0) ∧ σ.1 15 k = nI (to0.getD k 0) ∧ fr0.getD k 0 + (unt k).length = to0.getD k 0 ∧ to0.getD k 0 ≤ 1620 ∧ ∀ j, j < (unt k).length → σ.1 13 (fr0.getD k 0 + j) = nI (cc ((unt k).getD j 0))) ∧
  (σ.1 2 10 = nI 0 ∧ σ.1 2 11 = nI 0 ∧ σ.1 2 12 = nI 0 ∧ σ.1 2 13 = nI 0 ∧ σ.1 2 14 = nI 0) ∧ σ.1 266 9 = nI 0 ∧ ρ 265 1 = some 2 ∧ (∀ b, b < 6 → ∀ i, i < 8 → σ.1 (34 + b) i = nI 0) ∧
  (σ.1 32 0 = nI 0 ∧ σ.1 32 2 = nI 0 ∧ σ.1 32 6 = nI 0) ∧
  (ρ 0 2 = some 2 ∧ ρ 0 3 = some 17) ∧ σ.1 43 2 = nI 0 ∧ σ.1 43 1 = nI 0 ∧ σ.1 267 12 = nI 0 ∧ σ.1 0 16 = nI 1 ∧ σ.1 0 1 = nI 0 ∧ (σ.1 0 14 = nI 0 ∧ σ.1 0 15 = -1) ∧ σ.1 0 12 = nI 0 ∧ ∀ j, j < 6 → σ.1 325 j = 0
/-- what the reference's cells hold -/
def StM0 (σ : St) : Prop := (∀ p, p ∈ wdS → ∀ j, j < p.2.length → σ.1 p.1 j = nI (p.2.getD j 0)) ∧ (∀ q, q < 5 → σ.1 356 (5 + q) = nI 0) ∧ (∀ k, k < 4 → σ.1 362 (4 + k) = -1) ∧ (σ.1 326 53 = -1 ∧ σ.1 326 60 = 0) ∧ σ.1 365 0 = nI 0 ∧ σ.1 365 81 = nI 0 ∧ σ.1 326 73 = nI 0 ∧ σ.1 326 74 = nI 0 ∧ σ.1 326 69 = nI 0 ∧ σ.2 326 75 = lI ((1 : Nat) : Int) ∧ σ.1 326 1 = nI 0 ∧ (∀ j, j < 6 → σ.1 328 j = 0) ∧ (σ.1 326 7 = nI 0 ∧ σ.1 326 8 = -1) ∧ σ.1 326 110 = nI 0 ∧ ∀ b, b < 6 → ∀ i, i < 8 → σ.1 365 (1 + 8 * b + i) = nI 0
theorem st_rc {ρ : Rf} {σ : St} (hρ : RF ρ) (H : StC0 ρ σ) : RC 2 ρ σ A00 := by
  obtain ⟨f1, f2, f3, f4, f5, ⟨n1, n2, n3⟩, h1, h2, h3, h4, h5, h6, h7, h8, h9⟩ := H
  have hf : CFrm σ 2 B00 := fun k hk => by
    obtain ⟨g1, g2, g3, g4, g5⟩ := f1 k hk
    exact ⟨fr0.getD k 0, to0.getD k 0, g1, g2, g3, g4, g5⟩
  have hR : CRd ρ σ 2 B00 := ⟨hρ, Or.inl rfl, f4, f2, ⟨fun i hi => absurd hi (Nat.not_lt_zero i), fun i hi => absurd hi (Nat.not_lt_zero i)⟩, hf, 0, by decide, f3⟩
  exact ⟨h1, hR, ⟨fun i hi => absurd hi (Nat.not_lt_zero i), fun i hi => absurd hi (Nat.not_lt_zero i)⟩, ⟨n1, fun b hb i hi => f5 b hb i hi, ⟨n2, fun k hk => absurd hk (Nat.not_lt_zero k)⟩, n3, Nat.zero_le _, fun j hj => absurd hj (by show ¬ j < 4 * 0; omega)⟩, ⟨h2, 0, by decide, h3, fun k hk => absurd hk (Nat.not_lt_zero k)⟩, ⟨h4, fun j hj => absurd hj (by show ¬ j < 4 * 0; omega)⟩, h5, ⟨h6, fun j hj => absurd hj (Nat.not_lt_zero j)⟩, h9, h7, h8, fun j hj => absurd hj (Nat.not_lt_zero j)⟩
theorem st_rm {ρ : Rf} {σ : St} (hρ : RF ρ) (H : StM0 σ) : RM ρ σ A00 := by
  obtain ⟨w, h1, h2, h3, h4, h5, h6, h7, h8, h9, h10, h11, h12, h13, h14⟩ := H
  exact ⟨hρ, ⟨h1, ⟨fun i hi => absurd hi (Nat.not_lt_zero i), fun i hi => absurd hi (Nat.not_lt_zero i)⟩, fun k hk => h2 k hk, fun i hi => absurd hi (Nat.not_lt_zero i), fun i hi => absurd hi (Nat.not_lt_zero i), w⟩, h3, ⟨h4, fun b i hb hi => h14 b hb i hi, fun j hj => absurd hj (by show ¬ j < 2 * 0; omega), h5, fun j hj => absurd hj (by show ¬ j < 4 * 0; omega)⟩, ⟨h6, 0, by decide, h7, fun k hk => absurd hk (Nat.not_lt_zero k)⟩, ⟨h8, fun j hj => absurd hj (by show ¬ j < 4 * 0; omega)⟩, h9, ⟨h10, fun j hj => absurd hj (Nat.not_lt_zero j)⟩, h11, h12, h13, fun j hj => absurd hj (Nat.not_lt_zero j)⟩
theorem st_c0 : StC0 r817 s817 := by
  unfold StC0
  decide +kernel
theorem st_m0 : StM0 s817 := by
  unfold StM0
  decide +kernel
theorem inv_start : InvA r817 s817 := ⟨A00, 2, wf_A00, st_rc rf_start st_c0, st_rm rf_start st_m0⟩
