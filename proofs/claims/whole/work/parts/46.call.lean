/-! An hour of all; rows copied and summed up: the class. -/
theorem rf33 {ρ : Rf} (hρ : RF ρ) {b : Nat} (hb : b < 6) : ρ 33 b = some (34 + b) := by
  rcases (by omega : b = 0 ∨ b = 1 ∨ b = 2 ∨ b = 3 ∨ b = 4 ∨ b = 5) with rfl | rfl | rfl | rfl | rfl | rfl <;> exact hρ _ _ _ rfl
theorem rowN {b : Nat} (hb : b < 6) : RowO (34 + b) := by
  rcases (by omega : b = 0 ∨ b = 1 ∨ b = 2 ∨ b = 3 ∨ b = 4 ∨ b = 5) with rfl | rfl | rfl | rfl | rfl | rfl <;> exact ⟨rfl, rfl, by decide, by decide, by decide, by decide⟩
theorem row279 : RowO 279 := ⟨rfl, rfl, by decide, by decide, by decide, by decide⟩
/-- what is kept, in the moment at the cell m -/
def CKp (σ : St) (m : Nat) (K : Nat × (Nat → Nat)) : Prop := σ.1 m 6 = nI K.1 ∧ K.1 ≤ 40 ∧ KpR (σ.1 (m + 10)) 0 K
def CStr (σ : St) (S : Str) : Prop := ∀ b, b < 6 → RowR σ (34 + b) (S b)
theorem WfS.row {B : Bh} {S : Str} (h : WfS B S) (b : Nat) : Rw8 B (S b) := ⟨fun i => (h b i).1, fun i hi => (h b i).2 (Or.inr hi)⟩
section S46
variable {l : Launch} {X : Cx} {ρ : Rf} {B : Bh} {q : Nat}
theorem keep_tail {d : Nat} {σ : St} {h b i v c : Nat} {K : Nat × (Nat → Nat)} {f0 : Nat → Int32} {w4 : Value} (hρ : RF ρ) (hk : K.1 ≤ 40) (hK : KpR f0 0 K) (hh : σ.1 32 0 = nI h) (hc : σ.1 32 6 = nI c) (hcc : c + 1 = (kpA h b i v K).1)
    (hf : ∀ j, j < 4 * c → σ.1 42 j = f0 (j + (if K.1 = 40 then 4 else 0))) :
    Ev l X (d + 1) 63 35 [.ref 32, .int (nI b), .int (nI i), .int (nI v), w4] [] 402 402 402 ρ σ (fun u ρ' σ' => u = none ∧ ρ' = ρ ∧ (∀ k, k ≠ 32 → k ≠ 42 → σ'.1 k = σ.1 k) ∧ (∀ j, j ≠ 6 → σ'.1 32 j = σ.1 32 j) ∧ σ'.2 = σ.2 ∧ CKp σ' 32 (kpA h b i v K)) := by
  have h40 : (kpA h b i v K).1 ≤ 40 := kpA_40 hk
  have h39 : c ≤ 39 := by omega
  refine Ev_const rfl ?_
  refine Ev_aload rfl rfl rfl ?_
  refine Ev_getI rfl (by first | rfl | assumption) ?_
  refine Ev_norm hc ?_
  refine Ev_imul rfl ?_
  refine Ev_norm (pk_mul 4 c) ?_
  refine Ev_istore rfl ?_
  refine Ev_aload rfl rfl rfl ?_
  refine Ev_getR rfl (by first | rfl | assumption) (hρ _ _ _ rfl) ?_
  refine Ev_iload rfl rfl ?_
  refine Ev_aload rfl rfl rfl ?_
  refine Ev_getI rfl (by first | rfl | assumption) ?_
  refine Ev_norm hh ?_
  refine Ev_iast rfl (by first | rfl | assumption) (vp_in_nI (n := 4 * c) (show 4 * c < 160 by omega) (by decide)) ?_
  rw [nI_clamp (show 4 * c < 2 ^ 31 by omega)]
  refine Ev_aload rfl rfl rfl ?_
  refine Ev_getR rfl (by first | rfl | assumption) (hρ _ _ _ rfl) ?_
  refine Ev_iload rfl rfl ?_
  refine Ev_const rfl ?_
  refine Ev_iadd rfl ?_
  refine Ev_norm (nI_1 (4 * c)) ?_
  refine Ev_iload rfl rfl ?_
  refine Ev_iast rfl (by first | rfl | assumption) (vp_in_nI (n := 4 * c + 1) (show 4 * c + 1 < 160 by omega) (by decide)) ?_
  rw [nI_clamp (show 4 * c + 1 < 2 ^ 31 by omega), sI_sI, sR_0]
  refine Ev_aload rfl rfl rfl ?_
  refine Ev_getR rfl (by first | rfl | assumption) (hρ _ _ _ rfl) ?_
  refine Ev_iload rfl rfl ?_
  refine Ev_const rfl ?_
  refine Ev_iadd rfl ?_
  refine Ev_norm (nI_add (4 * c) 2) ?_
  refine Ev_iload rfl rfl ?_
  refine Ev_iast rfl (by first | rfl | assumption) (vp_in_nI (n := 4 * c + 2) (show 4 * c + 2 < 160 by omega) (by decide)) ?_
  rw [nI_clamp (show 4 * c + 2 < 2 ^ 31 by omega), sI_sI, sR_0]
  refine Ev_aload rfl rfl rfl ?_
  refine Ev_getR rfl (by first | rfl | assumption) (hρ _ _ _ rfl) ?_
  refine Ev_iload rfl rfl ?_
  refine Ev_const rfl ?_
  refine Ev_iadd rfl ?_
  refine Ev_norm (nI_add (4 * c) 3) ?_
  refine Ev_iload rfl rfl ?_
  refine Ev_iast rfl (by first | rfl | assumption) (vp_in_nI (n := 4 * c + 3) (show 4 * c + 3 < 160 by omega) (by decide)) ?_
  rw [nI_clamp (show 4 * c + 3 < 2 ^ 31 by omega), sI_sI, sR_0]
  refine Ev_aload rfl rfl rfl ?_
  refine Ev_dup rfl (fun _ q => nomatch q) ?_
  refine Ev_getI rfl (by first | rfl | assumption) ?_
  refine Ev_norm (by rw [sR_1 _ _ (by decide)]; exact hc : _ = nI c) ?_
  refine Ev_const rfl ?_
  refine Ev_iadd rfl ?_
  refine Ev_norm (nI_1 c) ?_
  refine Ev_putI rfl (by first | rfl | assumption) ⟨rfl, rfl⟩ rfl ?_
  exact Ev_return rfl rfl rfl ⟨rfl, rfl, fun k k1 k2 => by rw [sR_1 _ _ k1, sR_1 _ _ k2], fun j hj => by rw [sR_0, pk_un hj, sR_1 _ _ (by decide)], rfl, by
  refine ⟨by rw [sR_0, pk_us, hcc], h40, ?_⟩
  rw [sR_1 _ _ (by decide), show (32 + 10 : Nat) = 42 from rfl, sR_0]
  have hcc4 : 4 * (kpA h b i v K).1 - 4 = 4 * c := by omega
  refine KpR.add hk hK (fun j hj => ?_) ?_ ?_ ?_ ?_
  · rw [hcc4] at hj
    rw [Nat.zero_add, pk_un (by omega), pk_un (by omega), pk_un (by omega), pk_un (by omega)]
    exact hf j hj
  · rw [hcc4, Nat.zero_add, pk_un (by omega), pk_un (by omega), pk_un (by omega), pk_us]
  · rw [hcc4, Nat.zero_add, pk_un (by omega), pk_un (by omega), pk_us]
  · rw [hcc4, Nat.zero_add, pk_un (by omega), pk_us]
  · rw [hcc4, Nat.zero_add, pk_us]⟩
theorem t_keep (d : Nat) {σ : St} {h b i v : Nat} {K : Nat × (Nat → Nat)} (hρ : RF ρ) (hK : CKp σ 32 K) (hh : σ.1 32 0 = nI h) :
    T l X (d + 1) 63 [.ref 32, .int (nI b), .int (nI i), .int (nI v)] 402 402 ρ σ (fun u ρ' σ' => u = none ∧ ρ' = ρ ∧ (∀ k, k ≠ 32 → k ≠ 42 → σ'.1 k = σ.1 k) ∧ (∀ j, j ≠ 6 → σ'.1 32 j = σ.1 32 j) ∧ σ'.2 = σ.2 ∧ CKp σ' 32 (kpA h b i v K)) := by
  obtain ⟨k1, k2, k3⟩ := hK
  by_cases hc : K.1 = 40
  · have hkc : (kpA h b i v K).1 = 40 := by unfold kpA; rw [if_pos hc]
    refine T_of rfl ?_
    refine Ev_aload rfl rfl rfl ?_
    refine Ev_getI rfl (by first | rfl | assumption) ?_
    refine Ev_norm k1 ?_
    refine Ev_const rfl ?_
    refine Ev_icmp_ne rfl (fun h6 => absurd (by rw [hc]; rfl) h6) (fun h6 => ?_)
    refine Ev_aload rfl rfl rfl ?_
    refine Ev_getR rfl (by first | rfl | assumption) (hρ _ _ _ rfl) ?_
    refine Ev_const rfl ?_
    refine Ev_aload rfl rfl rfl ?_
    refine Ev_getR rfl (by first | rfl | assumption) (hρ _ _ _ rfl) ?_
    refine Ev_const rfl ?_
    refine Ev_const rfl ?_
    refine Ev_copy rfl rfl rfl (by decide) (by decide) (by decide) (by decide) (by decide) rfl ?_
    refine Ev_aload rfl rfl rfl ?_
    refine Ev_dup rfl (fun _ q => nomatch q) ?_
    refine Ev_getI rfl (by first | rfl | assumption) ?_
    refine Ev_norm (by rw [sR_1 _ _ (by decide), k1, hc] : _ = nI 40) ?_
    refine Ev_const rfl ?_
    refine Ev_isub rfl ?_
    refine Ev_norm (by decide : _ = nI 39) ?_
    refine Ev_putI rfl (by first | rfl | assumption) ⟨rfl, rfl⟩ rfl ?_
    refine Ev.mono (keep_tail (c := 39) hρ k2 k3 (by rw [sR_0, pk_un (by decide), sR_1 _ _ (by decide)]; exact hh) (by rw [sR_0, pk_us]) hkc.symm (fun j hj => ?_)) (fun u ρ' σ' hq => ?_)
    · rw [sR_1 _ _ (by decide), sR_0, if_pos hc]
      show va_cpy (σ.1 42) (σ.1 42) 4 0 156 j = σ.1 42 (j + 4)
      unfold va_cpy
      rw [if_pos ⟨Nat.zero_le _, by omega⟩, Nat.sub_zero, Nat.add_comm]
    · obtain ⟨g1, g2, g3, g4, g5, g6⟩ := hq
      exact ⟨g1, g2, fun k a b => by rw [g3 k a b, sR_1 _ _ a, sR_1 _ _ b], fun j hj => by rw [g4 j hj, sR_0, pk_un hj, sR_1 _ _ (by decide)], g5, g6⟩
  · have hkc : (kpA h b i v K).1 = K.1 + 1 := by unfold kpA; rw [if_neg hc]
    refine T_of rfl ?_
    refine Ev_aload rfl rfl rfl ?_
    refine Ev_getI rfl (by first | rfl | assumption) ?_
    refine Ev_norm k1 ?_
    refine Ev_const rfl ?_
    refine Ev_icmp_ne rfl (fun h6 => ?_) (fun h6 => absurd ((nI_eq (by omega) (by decide)).mp (Decidable.not_not.mp h6)) hc)
    exact keep_tail (c := K.1) hρ k2 k3 hh k1 hkc.symm (fun j hj => by rw [if_neg hc]; rfl)
/-- what passAll leaves as it was -/
def cP (k j : Nat) : Bool := cL k j || (Nat.ble 34 k && Nat.ble k 39) || Nat.beq k 42 || (Nat.beq k 32 && (Nat.beq j 0 || Nat.beq j 6))
theorem cL_P {k j : Nat} (h : cP k j = false) : cL k j = false := by unfold cP at h; simp only [Bool.or_eq_false_iff] at h; exact h.1.1.1
theorem cP_r {b k j : Nat} (hb : b < 6) (h : cP k j = false) : cLr (34 + b) k j = false := by
  unfold cLr
  rw [cL_P h, Bool.false_or]
  apply nbeq
  intro q
  subst q
  unfold cP at h
  simp only [Bool.or_eq_false_iff] at h
  have := h.1.1.2
  rw [Nat.ble_eq.mpr (by omega), Nat.ble_eq.mpr (by omega)] at this
  cases this
theorem CRd.cp {σ σ' : St} (H : CRd ρ σ q B) (hs : CF cP σ σ') : CRd ρ σ' q B := H.cf hs (fun k j h => by
  have h0 := cL_B (j := j) h
  unfold cB at h
  simp only [Bool.and_eq_true, Nat.blt_eq] at h
  obtain ⟨⟨⟨h1, h2⟩, h3⟩, h4⟩ := h
  unfold cP
  rw [h0, nbeq (show k ≠ 42 by omega), nbeq (show k ≠ 32 by omega)]
  cases hq : Nat.ble 34 k
  · rfl
  · rw [Nat.ble_eq] at hq; omega) rfl
/-- behind the bathers ahead of b -/
def kpK (B : Bh) (P : Nat → Nat) (S : Str) (W : Nat → Nat) (h tide : Nat) (K : Nat × (Nat → Nat)) (b : Nat) : Nat × (Nat → Nat) := if np B ≠ 0 ∧ dWho B P h < b then kpH B P S W h tide K else K
def kpc (B : Bh) (P : Nat → Nat) (S : Str) (W : Nat → Nat) (h tide : Nat) (b : Nat) : Nat := if np B ≠ 0 ∧ dWho B P h < b then dkC B P S W h tide else 0
theorem dk_at {B : Bh} {P : Nat → Nat} {S : Str} {W : Nat → Nat} {h tide b : Nat} : dkB B (S b) b (W b) h tide (pfM B P h b) = if np B ≠ 0 ∧ dWho B P h = b then dkN B P S W h tide else 0 := by
  unfold pfM
  by_cases h0 : np B = 0
  · rw [if_pos h0, if_neg (fun q => q.1 h0)]; rfl
  · rw [if_neg h0]
    by_cases h1 : P (2 * (h % np B)) = b
    · subst h1
      rw [if_pos rfl, if_pos ⟨h0, rfl⟩]
      unfold dkN
      rw [if_neg h0]
      rfl
    · rw [if_neg h1, if_neg (fun q => h1 q.2)]; rfl
theorem kp_st {B : Bh} {P : Nat → Nat} {S : Str} {W : Nat → Nat} {h tide b : Nat} {K : Nat × (Nat → Nat)} : (dkB B (S b) b (W b) h tide (pfM B P h b) = 0 → kpK B P S W h tide K (b + 1) = kpK B P S W h tide K b ∧ kpc B P S W h tide (b + 1) = kpc B P S W h tide b) ∧
    (¬ dkB B (S b) b (W b) h tide (pfM B P h b) = 0 → kpK B P S W h tide K b = K ∧ kpc B P S W h tide b = 0 ∧ kpc B P S W h tide (b + 1) = 1 ∧ kpK B P S W h tide K (b + 1) = kpA h b (dWat B P h) (dkB B (S b) b (W b) h tide (pfM B P h b)) K ∧ pfM B P h b = some (dWat B P h)) := by
  rw [dk_at]
  by_cases hc : np B ≠ 0 ∧ dWho B P h = b
  · rw [if_pos hc]
    obtain ⟨h0, h1⟩ := hc
    have e1 : kpK B P S W h tide K b = K := by unfold kpK; rw [if_neg (by omega)]
    have e2 : kpc B P S W h tide b = 0 := by unfold kpc; rw [if_neg (by omega)]
    have e3 : kpK B P S W h tide K (b + 1) = kpH B P S W h tide K := by unfold kpK; rw [if_pos ⟨h0, by omega⟩]
    have e4 : kpc B P S W h tide (b + 1) = dkC B P S W h tide := by unfold kpc; rw [if_pos ⟨h0, by omega⟩]
    refine ⟨fun hz => ?_, fun hz => ?_⟩
    · rw [e1, e2, e3, e4]
      unfold kpH dkC
      rw [if_pos hz, if_pos hz]
      exact ⟨rfl, rfl⟩
    · rw [e1, e2, e3, e4]
      unfold kpH dkC
      rw [if_neg hz, if_neg hz, h1]
      refine ⟨rfl, rfl, rfl, rfl, ?_⟩
      unfold pfM
      rw [if_neg h0, if_pos (show P (2 * (h % np B)) = b from h1)]
      rfl
  · rw [if_neg hc]
    refine ⟨fun _ => ?_, fun q => absurd rfl q⟩
    unfold kpK kpc
    by_cases h2 : np B ≠ 0 ∧ dWho B P h < b
    · rw [if_pos h2, if_pos h2, if_pos ⟨h2.1, by omega⟩, if_pos ⟨h2.1, by omega⟩]; exact ⟨rfl, rfl⟩
    · rw [if_neg h2, if_neg h2, if_neg (fun q => h2 ⟨q.1, by have := fun z => hc ⟨q.1, z⟩; omega⟩), if_neg (fun q => h2 ⟨q.1, by have := fun z => hc ⟨q.1, z⟩; omega⟩)]; exact ⟨rfl, rfl⟩
/-- a moment that the class stands at -/
def CNow (σ : St) (B : Bh) (h : Nat) (S : Str) (P : Nat → Nat) (K : Nat × (Nat → Nat)) : Prop := σ.1 32 0 = nI h ∧ CStr σ S ∧ CPl σ 32 B P ∧ CKp σ 32 K
theorem pa2_loop {d h tide : Nat} {P : Nat → Nat} {S : Str} {K : Nat × (Nat → Nat)} (hW : WfN B) (hWt : WfT B) (hWf : WfF B) (hS : WfS B S) (hP : WfP B P) (hh : h ≤ 2000) (ht9 : tide ≤ 9) (σ0 : St) :
    ∀ (m k : Nat) (σ : St) (w5 w6 : Value), k + m = nb B → CF cP σ0 σ → CRd ρ σ q B → CNow σ B h (mixS (hrS B P S (wit B) h tide) S k) P (kpK B P S (wit B) h tide K k) →
    Ev l X (d + 5) 55 5 [.ref 265, .ref 32, .int (nI tide), .int (nI (kpc B P S (wit B) h tide k)), .int (nI k), w5, w6] [] 402 402 402 ρ σ (fun v ρ' σ' => v = some (.int (nI (kpc B P S (wit B) h tide (nb B)))) ∧ ρ' = ρ ∧ CF cP σ0 σ' ∧ CNow σ' B (h + 1) (mixS (hrS B P S (wit B) h tide) S (nb B)) P (kpK B P S (wit B) h tide K (nb B))) := by
  have hi8 := hW.1
  have hb6 := hW.2.1
  intro m
  induction m with
  | zero =>
    intro k σ w5 w6 hk hs hR hN
    have hk : k = nb B := by omega
    subst hk
    obtain ⟨n1, n2, n3, n4⟩ := hN
    refine Ev_iload rfl rfl ?_
    refine Ev_aload rfl rfl rfl ?_
    refine Ev_getR rfl (by first | rfl | assumption) hR.2.2.1 ?_
    refine Ev_getI rfl (by rcases hR.2.1 with rfl | rfl <;> rfl) ?_
    refine Ev_norm hR.2.2.2.1.2.2.1 ?_
    refine Ev_icmp_ge rfl (fun h14 => ?_) (fun h14 => absurd (nI_le (Nat.le_refl _) (by omega)) h14)
    refine Ev_aload rfl rfl rfl ?_
    refine Ev_dup rfl (fun _ q => nomatch q) ?_
    refine Ev_getI rfl (by first | rfl | assumption) ?_
    refine Ev_norm n1 ?_
    refine Ev_const rfl ?_
    refine Ev_iadd rfl ?_
    refine Ev_norm (nI_1 h) ?_
    refine Ev_putI rfl (by first | rfl | assumption) ⟨rfl, rfl⟩ rfl ?_
    refine Ev_iload rfl rfl ?_
    exact Ev_ireturn rfl rfl rfl rfl ⟨rfl, rfl, hs.tr (CF.put _ _ rfl), by rw [sR_0, pk_us], fun b hb i hi => by rw [sR_1 _ _ (by omega)]; exact n2 b hb i hi, ⟨by rw [sR_0, pk_un (by decide)]; exact n3.1, fun k hk => by rw [sR_1 _ _ (by decide), sR_1 _ _ (by decide)]; exact n3.2 k hk⟩, by rw [sR_0, pk_un (by decide)]; exact n4.1, n4.2.1, by rw [sR_1 _ _ (by decide)]; exact n4.2.2⟩
  | succ m ih =>
    intro k σ w5 w6 hk hs hR hN
    obtain ⟨n1, n2, n3, n4⟩ := hN
    have hkb : k < nb B := by omega
    have hmk : mixS (hrS B P S (wit B) h tide) S k k = S k := by unfold mixS; rw [if_neg (Nat.lt_irrefl k)]
    have hwt : σ.1 (q + 7) k = nI (wit B k) := (hR.2.2.2.2.1.2 k hkb).2
    have hw9 : wit B k ≤ 9 := (hWt.2.1 k hkb).2
    have hst := kp_st (B := B) (P := P) (S := S) (W := wit B) (h := h) (tide := tide) (b := k) (K := K)
    have hmix : ∀ σ1, CF (cLr (34 + k)) σ σ1 → RowR σ1 (34 + k) (hrB B (S k) k (wit B k) h tide (pfM B P h k)) → CStr σ1 (mixS (hrS B P S (wit B) h tide) S (k + 1)) := by
      intro σ1 hs1 hr1 b hb i hi
      by_cases hbk : b = k
      · subst hbk
        have e : mixS (hrS B P S (wit B) h tide) S (b + 1) b = hrB B (S b) b (wit B b) h tide (pfM B P h b) := by unfold mixS; rw [if_pos (by omega)]; unfold hrS; rw [if_pos hkb]
        rw [e]; exact hr1 i hi
      · have e : mixS (hrS B P S (wit B) h tide) S (k + 1) b = mixS (hrS B P S (wit B) h tide) S k b := by
          unfold mixS
          by_cases hq : b < k
          · rw [if_pos hq, if_pos (by omega)]
          · rw [if_neg hq, if_neg (by omega)]
        rw [e, hs1.1 (34 + b) i (by unfold cLr; rw [(rowN hb).cl, nbeq (by omega)]; rfl)]
        exact n2 b hb i hi
    have hpl : ∀ σ1, CF (cLr (34 + k)) σ σ1 → CPl σ1 32 B P := by
      intro σ1 hs1
      have e : ∀ k' j, k' = 32 ∨ k' = 40 ∨ k' = 41 → σ1.1 k' j = σ.1 k' j := fun k' j hk' => hs1.1 k' j (by
        unfold cLr
        rw [nbeq (show k' ≠ 34 + k by omega)]
        rcases hk' with rfl | rfl | rfl <;> rfl)
      exact ⟨by rw [e _ _ (Or.inl rfl)]; exact n3.1, fun j hj => by rw [e _ _ (Or.inr (Or.inl rfl)), e _ _ (Or.inr (Or.inr rfl))]; exact n3.2 j hj⟩
    have hkp : ∀ σ1, CF (cLr (34 + k)) σ σ1 → CKp σ1 32 (kpK B P S (wit B) h tide K k) ∧ σ1.1 32 0 = nI h := by
      intro σ1 hs1
      have e : ∀ k' j, k' = 32 ∨ k' = 42 → σ1.1 k' j = σ.1 k' j := fun k' j hk' => hs1.1 k' j (by
        unfold cLr
        rw [nbeq (show k' ≠ 34 + k by omega)]
        rcases hk' with rfl | rfl <;> rfl)
      exact ⟨⟨by rw [e _ _ (Or.inl rfl)]; exact n4.1, n4.2.1, fun j hj => by rw [e _ _ (Or.inr rfl)]; exact n4.2.2 j hj⟩, by rw [e _ _ (Or.inl rfl)]; exact n1⟩
    refine Ev_iload rfl rfl ?_
    refine Ev_aload rfl rfl rfl ?_
    refine Ev_getR rfl (by first | rfl | assumption) hR.2.2.1 ?_
    refine Ev_getI rfl (by rcases hR.2.1 with rfl | rfl <;> rfl) ?_
    refine Ev_norm hR.2.2.2.1.2.2.1 ?_
    refine Ev_icmp_ge rfl (fun h14 => absurd h14 (nI_ge (by omega) (by omega))) (fun h14 => ?_)
    refine Ev_aload rfl rfl rfl ?_
    refine Ev_iload rfl rfl ?_
    refine Ev_aload rfl rfl rfl ?_
    refine Ev_getI rfl (by first | rfl | assumption) ?_
    refine Ev_norm n1 ?_
    refine Ev_callV rfl rfl rfl rfl rfl (same_n 402) (t_plannedFor _ hR.1 (Or.inl rfl) hW hP n3 hh hkb) ?_
    rintro v24 ρ24 σ24 ⟨rfl, e24, g24⟩
    obtain rfl := e24.symm
    obtain rfl := g24.symm
    refine Ev_istore rfl ?_
    refine Ev_aload rfl rfl rfl ?_
    refine Ev_aload rfl rfl rfl ?_
    refine Ev_getR rfl (by first | rfl | assumption) (hR.1 _ _ _ rfl) ?_
    refine Ev_iload rfl rfl ?_
    refine Ev_aald (t := 4) rfl (Or.inl rfl) (by first | rfl | assumption) (vp_in_nI (n := k) (show k < 6 by omega) (by decide)) (by rw [nI_clamp (by omega)]; exact rf33 hR.1 (by omega) : _ = some (34 + k)) ?_
    refine Ev_iload rfl rfl ?_
    refine Ev_aload rfl rfl rfl ?_
    refine Ev_getR rfl (by first | rfl | assumption) hR.2.2.1 ?_
    refine Ev_getR rfl (by rcases hR.2.1 with rfl | rfl <;> rfl) (by rcases hR.2.1 with rfl | rfl <;> exact hR.1 _ _ _ rfl : _ = some (q + 7)) ?_
    refine Ev_iload rfl rfl ?_
    refine Ev_iald rfl (by rcases hR.2.1 with rfl | rfl <;> rfl) (by rcases hR.2.1 with rfl | rfl <;> exact vp_in_nI (n := k) (show k < 6 by omega) (by decide)) ?_
    refine Ev_norm (by rw [nI_clamp (by omega)]; exact hwt : _ = nI (wit B k)) ?_
    refine Ev_aload rfl rfl rfl ?_
    refine Ev_getI rfl (by first | rfl | assumption) ?_
    refine Ev_norm n1 ?_
    refine Ev_iload rfl rfl ?_
    refine Ev_iload rfl rfl ?_
    refine Ev_callV rfl rfl rfl rfl rfl (same_n 402) (t_pass _ hR hW hWt hWf (rowN (by omega)) (by have := n2 k (by omega); rw [hmk] at this; exact this) (hS.row k) hw9 hh ht9 hkb (pl := pfM B P h k) (fun i hq => (pfM_ok hP hq).2.2.2.2)) ?_
    rintro v56 ρ56 σ56 ⟨rfl, e56, s56, r56⟩
    obtain rfl := e56.symm
    have s56P : CF cP σ σ56 := s56.wk (fun _ _ h => cP_r (by omega) h)
    refine Ev_istore rfl ?_
    refine Ev_iload rfl rfl ?_
    refine Ev_if_le rfl (fun h63 => ?_) (fun h63 => ?_)
    · refine Ev_iincE rfl rfl (nI_1 k) ?_
      refine Ev_goto rfl ?_
      have h0 : dkB B (S k) k (wit B k) h tide (pfM B P h k) = 0 := Decidable.byContradiction fun q => absurd h63 (nI_nle (Nat.pos_of_ne_zero q) (by
        have : dkB B (S k) k (wit B k) h tide (pfM B P h k) ≤ 99 := by
          cases pfM B P h k with
          | none => exact Nat.zero_le _
          | some i => rw [dkB_s]; cases rdM B (S k) k (wit B k) h tide i; exact Nat.zero_le _; exact (kpM_le _ _ _ _ _ _ _).2
        omega))
      have e1 := (hst.1 h0).1
      have e2 := (hst.1 h0).2
      have := ih (k + 1) σ56 (.int (plV (pfM B P h k))) (.int (nI (dkB B (S k) k (wit B k) h tide (pfM B P h k)))) (by omega) (hs.tr s56P) (hR.cp s56P) ⟨(hkp σ56 s56).2, hmix σ56 s56 r56, hpl σ56 s56, by rw [e1]; exact (hkp σ56 s56).1⟩
      rw [e2] at this
      exact this
    · refine Ev_aload rfl rfl rfl ?_
      refine Ev_iload rfl rfl ?_
      refine Ev_iload rfl rfl ?_
      refine Ev_iload rfl rfl ?_
      obtain ⟨k1, k2, k3, k4, k5⟩ := hst.2 (fun q => h63 (by rw [q]; decide))
      rw [k5, plV_some]
      refine Ev_callV rfl rfl rfl rfl rfl (same_n 402) (t_keep _ hR.1 (by rw [k1] at hkp; exact (hkp σ56 s56).1) (hkp σ56 s56).2) ?_
      rintro v73 ρ73 σ73 ⟨rfl, e73, g1, g2, g3, g4⟩
      obtain rfl := e73.symm
      refine Ev_iincE rfl rfl (nI_1 _) ?_
      refine Ev_iincE rfl rfl (nI_1 k) ?_
      refine Ev_goto rfl ?_
      have s73 : CF cP σ56 σ73 := ⟨fun k' j hj => by
        by_cases hk1 : k' = 32
        · subst hk1; exact g2 j (fun q => by subst q; cases hj)
        · exact congrFun (g1 k' hk1 (fun q => by subst q; cases hj)) j, g3⟩
      have := ih (k + 1) σ73 (.int (nI (dWat B P h))) (.int (nI (dkB B (S k) k (wit B k) h tide (some (dWat B P h))))) (by omega) ((hs.tr s56P).tr s73) ((hR.cp s56P).cp s73) ⟨by rw [g2 _ (by decide)]; exact (hkp σ56 s56).2, fun b hb i hi => by rw [g1 _ (by omega) (by omega)]; exact hmix σ56 s56 r56 b hb i hi, ⟨by rw [g2 _ (by decide)]; exact (hpl σ56 s56).1, fun j hj => by rw [g1 _ (by decide) (by decide), g1 _ (by decide) (by decide)]; exact (hpl σ56 s56).2 j hj⟩, by rw [k4, k5]; exact g4⟩
      rw [k3] at this
      rw [k2]
      exact this
theorem t_passAll (d : Nat) {σ : St} {h tide : Nat} {P : Nat → Nat} {S : Str} {K : Nat × (Nat → Nat)} (hR : CRd ρ σ q B) (hN : CNow σ B h S P K) (hW : WfN B) (hWt : WfT B) (hWf : WfF B) (hS : WfS B S) (hP : WfP B P) (hh : h ≤ 2000) (ht9 : tide ≤ 9) :
    T l X (d + 5) 55 [.ref 265, .ref 32, .int (nI tide)] 402 402 ρ σ (fun v ρ' σ' => v = some (.int (nI (dkC B P S (wit B) h tide))) ∧ ρ' = ρ ∧ CF cP σ σ' ∧ CNow σ' B (h + 1) (hrS B P S (wit B) h tide) P (kpH B P S (wit B) h tide K)) := by
  have e0 : kpK B P S (wit B) h tide K 0 = K := by unfold kpK; rw [if_neg (by omega)]
  have e1 : kpc B P S (wit B) h tide 0 = 0 := by unfold kpc; rw [if_neg (by omega)]
  have hz : np B = 0 ∨ dWho B P h < nb B := by
    by_cases h0 : np B = 0
    · exact Or.inl h0
    · exact Or.inr (hP _ (Nat.mod_lt h (Nat.pos_of_ne_zero h0))).1
  have e2 : kpK B P S (wit B) h tide K (nb B) = kpH B P S (wit B) h tide K := by
    unfold kpK
    rcases hz with h0 | h1
    · rw [if_neg (by omega)]; unfold kpH dkN; rw [if_pos h0, if_pos rfl]
    · by_cases h0 : np B = 0
      · rw [if_neg (by omega)]; unfold kpH dkN; rw [if_pos h0, if_pos rfl]
      · rw [if_pos ⟨h0, h1⟩]
  have e3 : kpc B P S (wit B) h tide (nb B) = dkC B P S (wit B) h tide := by
    unfold kpc
    rcases hz with h0 | h1
    · rw [if_neg (by omega)]; unfold dkC dkN; rw [if_pos h0, if_pos rfl]
    · by_cases h0 : np B = 0
      · rw [if_neg (by omega)]; unfold dkC dkN; rw [if_pos h0, if_pos rfl]
      · rw [if_pos ⟨h0, h1⟩]
  have e4 : mixS (hrS B P S (wit B) h tide) S (nb B) = hrS B P S (wit B) h tide := by
    funext b
    unfold mixS hrS
    by_cases hb : b < nb B
    · rw [if_pos hb]
    · rw [if_neg hb, if_neg hb]
  refine T_of rfl ?_
  refine Ev_const rfl ?_
  refine Ev_istore rfl ?_
  refine Ev_const rfl ?_
  refine Ev_istore rfl ?_
  have := pa2_loop (l := l) (X := X) (d := d) hW hWt hWf hS hP hh ht9 σ (nb B) 0 σ (.float 0) (.float 0) (by omega) (CF.rf _ _) hR (by rw [mixS_0, e0]; exact hN)
  rw [e1, e2, e3, e4] at this
  exact this
end S46
