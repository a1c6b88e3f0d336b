/-! Which wits are left: the reference. -/
def wv (B : Bh) (b v : Nat) (b' : Nat) : Nat := if b' = b then v else wit B b'
def asF (B : Bh) (S : Str) (h r : Nat) (F : Nat → Nat) (n : Nat) : Bool := allK r (fun k => !(decide (F (4 * k) = n) && (decide (999 < h) || !(decide (S (F (4 * k + 1)) (F (4 * k + 2)) = F (4 * k + 3))))))
def FOk (B : Bh) (r : Nat) (F : Nat → Nat) : Prop := ∀ k, k < r → F (4 * k) ≤ 30 ∧ F (4 * k + 1) < nb B ∧ F (4 * k + 2) < ni B ∧ F (4 * k + 3) ≤ 99
theorem as_ok {B : Bh} {P : Nat → Nat} {S : Str} {h b r v : Nat} {F : Nat → Nat} (hF : FOk B r F) (hh : h ≤ 999) : allK 31 (fun m => asF B (adS B P (wv B b v) h m S) (h + m) r F m) = allK r (okW B P S h b F v) := by
  have key : ∀ k, k < r → (okW B P S h b F v k = true ↔ (h + F (4 * k) ≤ 999 ∧ adS B P (wv B b v) h (F (4 * k)) S (F (4 * k + 1)) (F (4 * k + 2)) = F (4 * k + 3))) := by
    intro k hk
    obtain ⟨f1, f2, f3, f4⟩ := hF k hk
    unfold okW
    rw [Bool.and_eq_true_iff, decide_eq_true_eq, decide_eq_true_eq, adS_row f2]
    have e : F (4 * k) ≤ most60 h 30 ↔ h + F (4 * k) ≤ 999 := by unfold most60; split <;> omega
    rw [e]
    exact Iff.rfl
  cases hq : allK r (okW B P S h b F v) with
  | true =>
    refine allK_of (fun m hm => allK_of (fun k hk => ?_))
    obtain ⟨k1, k2⟩ := (key k hk).mp (allK_at hq k hk)
    by_cases hm2 : F (4 * k) = m
    · subst hm2
      rw [decide_eq_true rfl, decide_eq_false (by omega : ¬ 999 < h + F (4 * k)), decide_eq_true k2]; rfl
    · rw [decide_eq_false hm2]; rfl
  | false =>
    cases hp : allK 31 (fun m => asF B (adS B P (wv B b v) h m S) (h + m) r F m) with
    | false => rfl
    | true =>
      exfalso
      have : allK r (okW B P S h b F v) = true := allK_of (fun k hk => (key k hk).mpr (by
        obtain ⟨f1, f2, f3, f4⟩ := hF k hk
        have a1 := allK_at hp (F (4 * k)) (by omega)
        have a2 := allK_at (show allK r _ = true from a1) k hk
        simp only [decide_true, Bool.true_and, Bool.not_eq_true', Bool.or_eq_false_iff, decide_eq_false_iff_not, Bool.not_eq_false', decide_eq_true_eq] at a2
        exact ⟨by omega, a2.2⟩))
      rw [hq] at this
      cases this
/-- in thought, the wits apart -/
def MTx (σ0 : St) (B : Bh) (S : Str) (h : Nat) (P : Nat → Nat) (σ : St) : Prop := MF cTi fTi σ0 σ ∧ (MNum σ B ∧ MTab σ B ∧ MStr σ S ∧ σ.1 365 0 = nI h) ∧ (∀ j, j < 2 * np B → σ.1 365 (49 + j) = nI (P j)) ∧ σ.1 326 60 = 1 ∧ (∀ j, 81 ≤ j → σ.1 365 j = σ0.1 365 j) ∧ (∀ j, j < 81 → σ.1 366 j = σ0.1 365 j) ∧ MFrm σ B
theorem MTh.x {σ0 σ : St} {B : Bh} {S : Str} {W : Nat → Nat} {h : Nat} {P : Nat → Nat} (H : MTh σ0 B S W h P σ) : MTx σ0 B S h P σ := ⟨H.1, ⟨H.2.1.1, H.2.1.2.1, H.2.1.2.2.1, H.2.1.2.2.2.2⟩, H.2.2⟩
theorem MTx.w {σ0 σ : St} {B : Bh} {S : Str} {W : Nat → Nat} {h : Nat} {P : Nat → Nat} (H : MTx σ0 B S h P σ) (hW : MWit σ B W) : MTh σ0 B S W h P σ := ⟨H.1, ⟨H.2.1.1, H.2.1.2.1, H.2.1.2.2.1, hW, H.2.1.2.2.2⟩, H.2.2⟩
theorem MTx.put {σ0 σ : St} {B : Bh} {S : Str} {h : Nat} {P : Nat → Nat} {f : Nat} (H : MTx σ0 B S h P σ) (x : Int32) (hf : f = 53 ∨ f = 54) : MTx σ0 B S h P (sI σ 326 (upd (σ.1 326) f x)) := by
  obtain ⟨h1, ⟨g1, g2, g3, g4⟩, h3, h4, h5, h6, h7⟩ := H
  have hs : MF cTi fTi σ (sI σ 326 (upd (σ.1 326) f x)) := MF.put x (by rcases hf with rfl | rfl <;> rfl)
  have e : (sI σ 326 (upd (σ.1 326) f x)).1 365 = σ.1 365 := sR_1 _ _ (by decide)
  refine ⟨h1.tr hs, ⟨g1.mf hs rfl, g2.mf hs rfl, fun b i hb hi => by rw [e]; exact g3 b i hb hi, by rw [e]; exact g4⟩, fun j hj => by rw [e]; exact h3 j hj, ?_, fun j hj => by rw [e]; exact h5 j hj, fun j hj => by rw [sR_1 _ _ (by decide)]; exact h6 j hj, h7.ti hs⟩
  rw [sR_0, pk_un (by rcases hf with rfl | rfl <;> decide)]; exact h4
theorem wit_wv {σ : St} {B : Bh} {b v : Nat} (hW : WfN B) (hT : MTab σ B) (hb : b < nb B) (h1 : σ.1 326 53 = nI b) (h2 : σ.1 326 54 = nI v) : MWit σ B (wv B b v) := by
  intro b' hb'
  have n6 := hW.2.1
  rw [h1, h2]
  unfold wv
  by_cases hq : b' = b
  · rw [hq, if_pos rfl, if_pos rfl]
  · rw [if_neg hq, if_neg (fun z => hq ((nI_eq (by omega) (by omega)).mp z))]
    exact (hT.2 b' hb').2
def WaysOk (σ : St) (B : Bh) (P : Nat → Nat) (S : Str) (h b v n : Nat) : Prop := ∀ v' m i, v' < 10 → m ≤ 30 → i < ni B → (v' < v ∨ v' = v ∧ m < n) → σ.1 373 (248 * v' + 8 * m + i) = nI (advB B P b v' h m (S b) i)
section S79
variable {l : Launch} {X : Cx} {ρ : Rf}
theorem iaf_loop {d n r : Nat} {σ0 σ : St} {B : Bh} {S : Str} {W : Nat → Nat} {h : Nat} {P F : Nat → Nat} (hρ : RF ρ) (H : MTh σ0 B S W h P σ) (hSw : WfS B S) (hW : WfN B) (hr : r ≤ 16) (hF : FOk B r F) (hf : MFnd σ (r, F)) (hh : h ≤ 2000) (hn : n ≤ 1000) :
    ∀ (m k : Nat), k + m = r → (∀ j, j < k → (!(decide (F (4 * j) = n) && (decide (999 < h) || !(decide (S (F (4 * j + 1)) (F (4 * j + 2)) = F (4 * j + 3)))))) = true) → Ev l X (d + 1) 247 2 [.ref 326, .int (nI n), .int (nI k)] [] 402 402 402 ρ σ (Rs (.int (bI (asF B S h r F n))) ρ σ) := by
  have n8 := hW.1
  have n6 := hW.2.1
  intro m
  induction m with
  | zero =>
    intro k hk ha
    have hk : k = r := by omega
    subst hk
    refine Ev_iload rfl rfl ?_
    refine Ev_aload rfl rfl rfl ?_
    refine Ev_getI rfl (by first | rfl | assumption) ?_
    refine Ev_norm hf.1 ?_
    refine Ev_icmp_ge rfl (fun h7 => ?_) (fun h7 => absurd (nI_le (Nat.le_refl _) (by omega)) h7)
    refine Ev_const rfl ?_
    exact Ev_ireturn rfl rfl rfl rfl ⟨by rw [show asF B S h k F n = true from allK_of ha]; rfl, rfl, rfl⟩
  | succ m ih =>
    intro k hk ha
    obtain ⟨f1, f2, f3, f4⟩ := hF k (by omega)
    have h99 := (hSw (F (4 * k + 1)) (F (4 * k + 2))).1
    have cl : ∀ j, j < 4 * r → σ.1 372 j = nI (F j) := fun j hj => hf.2 j hj
    have go : (!(decide (F (4 * k) = n) && (decide (999 < h) || !(decide (S (F (4 * k + 1)) (F (4 * k + 2)) = F (4 * k + 3)))))) = true → Ev l X (d + 1) 247 2 [.ref 326, .int (nI n), .int (nI (k + 1))] [] 402 402 402 ρ σ (Rs (.int (bI (asF B S h r F n))) ρ σ) := fun hz => ih (k + 1) (by omega) (fun j hj => by
      by_cases hq : j = k
      · rw [hq]; exact hz
      · exact ha j (by omega))
    have no : (!(decide (F (4 * k) = n) && (decide (999 < h) || !(decide (S (F (4 * k + 1)) (F (4 * k + 2)) = F (4 * k + 3)))))) = false → asF B S h r F n = false := fun hz => allK_no (k := k) (by omega) hz
    refine Ev_iload rfl rfl ?_
    refine Ev_aload rfl rfl rfl ?_
    refine Ev_getI rfl (by first | rfl | assumption) ?_
    refine Ev_norm hf.1 ?_
    refine Ev_icmp_ge rfl (fun h7 => absurd h7 (nI_ge (by omega) (by omega))) (fun h7 => ?_)
    refine Ev_aload rfl rfl rfl ?_
    refine Ev_getR rfl (by first | rfl | assumption) (hρ _ _ _ rfl) ?_
    refine Ev_const rfl ?_
    refine Ev_iload rfl rfl ?_
    refine Ev_imul rfl ?_
    refine Ev_norm (pk_mul 4 k : _ = nI (4 * k)) ?_
    refine Ev_iald rfl (by first | rfl | assumption) (vp_in_nI (n := 4 * k) (show 4 * k < 64 by omega) (by decide)) ?_
    refine Ev_norm (by rw [nI_clamp (by omega)]; exact cl _ (by omega) : _ = nI (F (4 * k))) ?_
    refine Ev_iload rfl rfl ?_
    refine Ev_icmp_ne rfl (fun h19 => ?_) (fun h19 => ?_)
    · refine Ev_iincE rfl rfl (nI_1 k) ?_
      refine Ev_goto rfl ?_
      exact go (by rw [decide_eq_false (fun z => h19 (by rw [z]))]; rfl)
    · refine Ev_aload rfl rfl rfl ?_
      refine Ev_getR rfl (by first | rfl | assumption) (hρ _ _ _ rfl) ?_
      refine Ev_const rfl ?_
      refine Ev_iald rfl (by first | rfl | assumption) (vp_in_nI (n := 0) (by decide) (by decide)) ?_
      refine Ev_norm H.2.1.2.2.2.2 ?_
      refine Ev_const rfl ?_
      refine Ev_icmp_gt rfl (fun h31 => ?_) (fun h31 => ?_)
      · refine Ev_const rfl ?_
        exact Ev_ireturn rfl rfl rfl rfl ⟨by
        have e1 : F (4 * k) = n := (nI_eq (by omega) (by omega)).mp (Decidable.not_not.mp h19)
        have e2 : 999 < h := (nI_ltI (a := 999) (by decide) (by omega)).mp h31
        rw [no (by rw [decide_eq_true e1, decide_eq_true e2]; rfl)]; rfl, rfl, rfl⟩
      · refine Ev_aload rfl rfl rfl ?_
        refine Ev_aload rfl rfl rfl ?_
        refine Ev_getR rfl (by first | rfl | assumption) (hρ _ _ _ rfl) ?_
        refine Ev_const rfl ?_
        refine Ev_iload rfl rfl ?_
        refine Ev_imul rfl ?_
        refine Ev_norm (pk_mul 4 k : _ = nI (4 * k)) ?_
        refine Ev_const rfl ?_
        refine Ev_iadd rfl ?_
        refine Ev_norm (nI_1 (4 * k)) ?_
        refine Ev_iald rfl (by first | rfl | assumption) (vp_in_nI (n := 4 * k + 1) (show 4 * k + 1 < 64 by omega) (by decide)) ?_
        refine Ev_norm (by rw [nI_clamp (by omega)]; exact cl _ (by omega) : _ = nI (F (4 * k + 1))) ?_
        refine Ev_aload rfl rfl rfl ?_
        refine Ev_getR rfl (by first | rfl | assumption) (hρ _ _ _ rfl) ?_
        refine Ev_const rfl ?_
        refine Ev_iload rfl rfl ?_
        refine Ev_imul rfl ?_
        refine Ev_norm (pk_mul 4 k : _ = nI (4 * k)) ?_
        refine Ev_const rfl ?_
        refine Ev_iadd rfl ?_
        refine Ev_norm (nI_add (4 * k) 2) ?_
        refine Ev_iald rfl (by first | rfl | assumption) (vp_in_nI (n := 4 * k + 2) (show 4 * k + 2 < 64 by omega) (by decide)) ?_
        refine Ev_norm (by rw [nI_clamp (by omega)]; exact cl _ (by omega) : _ = nI (F (4 * k + 2))) ?_
        refine Ev_callV rfl rfl rfl rfl rfl (same_n 402) (m_strengthOf _ hρ H.2.1.2.2.1 (by omega) (by omega)) ?_
        rintro v55 ρ55 σ55 ⟨rfl, e55, g55⟩
        obtain rfl := e55.symm
        obtain rfl := g55.symm
        refine Ev_aload rfl rfl rfl ?_
        refine Ev_getR rfl (by first | rfl | assumption) (hρ _ _ _ rfl) ?_
        refine Ev_const rfl ?_
        refine Ev_iload rfl rfl ?_
        refine Ev_imul rfl ?_
        refine Ev_norm (pk_mul 4 k : _ = nI (4 * k)) ?_
        refine Ev_const rfl ?_
        refine Ev_iadd rfl ?_
        refine Ev_norm (nI_add (4 * k) 3) ?_
        refine Ev_iald rfl (by first | rfl | assumption) (vp_in_nI (n := 4 * k + 3) (show 4 * k + 3 < 64 by omega) (by decide)) ?_
        refine Ev_norm (by rw [nI_clamp (by omega)]; exact cl _ (by omega) : _ = nI (F (4 * k + 3))) ?_
        refine Ev_icmp_eq rfl (fun h68 => ?_) (fun h68 => ?_)
        · refine Ev_iincE rfl rfl (nI_1 k) ?_
          refine Ev_goto rfl ?_
          have e2 : ¬ 999 < h := fun z => h31 (nI_lt (a := 999) z (by omega))
          exact go (by rw [decide_eq_false e2, decide_eq_true (p := S (F (4 * k + 1)) (F (4 * k + 2)) = F (4 * k + 3)) ((nI_eq (by omega) (by omega)).mp h68), Bool.not_true, Bool.or_false, Bool.and_false]; rfl)
        · refine Ev_const rfl ?_
          exact Ev_ireturn rfl rfl rfl rfl ⟨by
          have e1 : F (4 * k) = n := (nI_eq (by omega) (by omega)).mp (Decidable.not_not.mp h19)
          rw [no (by rw [decide_eq_true e1, decide_eq_false (p := S (F (4 * k + 1)) (F (4 * k + 2)) = F (4 * k + 3)) (fun z => h68 (by rw [z])), Bool.not_false, Bool.or_true]; rfl)]; rfl, rfl, rfl⟩
theorem m_isAsFound (d : Nat) {n r : Nat} {σ0 σ : St} {B : Bh} {S : Str} {W : Nat → Nat} {h : Nat} {P F : Nat → Nat} (hρ : RF ρ) (H : MTh σ0 B S W h P σ) (hSw : WfS B S) (hW : WfN B) (hr : r ≤ 16) (hF : FOk B r F) (hf : MFnd σ (r, F)) (hh : h ≤ 2000) (hn : n ≤ 1000) : T l X (d + 1) 247 [.ref 326, .int (nI n)] 402 402 ρ σ (Rs (.int (bI (asF B S h r F n))) ρ σ) := by
  refine T_of rfl ?_
  refine Ev_const rfl ?_
  refine Ev_istore rfl ?_
  exact iaf_loop hρ H hSw hW hr hF hf hh hn r 0 (by omega) (fun j hj => absurd hj (Nat.not_lt_zero j))
/-- a bather's strengths of an hour are put -/
theorem wy_loop {d b v n s : Nat} {is : Int32} {σ0 : St} {B : Bh} {S S0 : Str} {W : Nat → Nat} {h h0 : Nat} {P : Nat → Nat} {Q : Po} (hρ : RF ρ) (hW : WfN B) (hb : b < nb B) (hv : v < 10) (hn : n ≤ 30) (hS : S b = advB B P b v h0 n (S0 b))
    (hQ : ∀ σ x, MTh σ0 B S W h P σ → WaysOk σ B P S0 h0 b v (n + 1) → σ.1 326 53 = nI b → Ev l X (d + 9) 248 102 [.ref 326, .int (nI b), .int (nI s), .int (nI v), .int is, .int (nI n), x] [] 402 402 402 ρ σ Q) :
    ∀ (m i : Nat) (σ : St), i + m = ni B → MTh σ0 B S W h P σ → WaysOk σ B P S0 h0 b v n → (∀ j, j < i → σ.1 373 (248 * v + 8 * n + j) = nI (advB B P b v h0 n (S0 b) j)) → σ.1 326 53 = nI b → Ev l X (d + 9) 248 61 [.ref 326, .int (nI b), .int (nI s), .int (nI v), .int is, .int (nI n), .int (nI i)] [] 402 402 402 ρ σ Q := by
  have n8 := hW.1
  have n6 := hW.2.1
  intro m
  induction m with
  | zero =>
    intro i σ hi H hw hj htb
    have hi : i = ni B := by omega
    subst hi
    refine Ev_iload rfl rfl ?_
    refine Ev_aload rfl rfl rfl ?_
    refine Ev_callV rfl rfl rfl rfl rfl (same_n 402) (m_ideaMany _ hρ H.2.1.1) ?_
    rintro v64 ρ64 σ64 ⟨rfl, e64, g64⟩
    obtain rfl := e64.symm
    obtain rfl := g64.symm
    refine Ev_icmp_ge rfl (fun h67 => ?_) (fun h67 => absurd (nI_le (Nat.le_refl _) (by omega)) h67)
    refine hQ σ _ H (fun v' m' i' a1 a2 a3 a4 => ?_) htb
    by_cases hq : v' = v ∧ m' = n
    · rw [hq.1, hq.2]; exact hj i' a3
    · exact hw v' m' i' a1 a2 a3 (by omega)
  | succ m ih =>
    intro i σ hi H hw hj htb
    refine Ev_iload rfl rfl ?_
    refine Ev_aload rfl rfl rfl ?_
    refine Ev_callV rfl rfl rfl rfl rfl (same_n 402) (m_ideaMany _ hρ H.2.1.1) ?_
    rintro v64 ρ64 σ64 ⟨rfl, e64, g64⟩
    obtain rfl := e64.symm
    obtain rfl := g64.symm
    refine Ev_icmp_ge rfl (fun h67 => absurd h67 (nI_ge (by omega) (by omega))) (fun h67 => ?_)
    refine Ev_aload rfl rfl rfl ?_
    refine Ev_getR rfl (by first | rfl | assumption) (hρ _ _ _ rfl) ?_
    refine Ev_const rfl ?_
    refine Ev_iload rfl rfl ?_
    refine Ev_imul rfl ?_
    refine Ev_norm (pk_mul 248 v : _ = nI (248 * v)) ?_
    refine Ev_const rfl ?_
    refine Ev_iload rfl rfl ?_
    refine Ev_imul rfl ?_
    refine Ev_norm (pk_mul 8 n : _ = nI (8 * n)) ?_
    refine Ev_iadd rfl ?_
    refine Ev_norm (nI_add _ _) ?_
    refine Ev_iload rfl rfl ?_
    refine Ev_iadd rfl ?_
    refine Ev_norm (nI_add _ _) ?_
    refine Ev_aload rfl rfl rfl ?_
    refine Ev_iload rfl rfl ?_
    refine Ev_iload rfl rfl ?_
    refine Ev_callV rfl rfl rfl rfl rfl (same_n 402) (m_strengthOf _ hρ H.2.1.2.2.1 (by omega) (by omega)) ?_
    rintro v92 ρ92 σ92 ⟨rfl, e92, g92⟩
    obtain rfl := e92.symm
    obtain rfl := g92.symm
    refine Ev_iast rfl (by first | rfl | assumption) (vp_in_nI (n := 248 * v + 8 * n + i) (show 248 * v + 8 * n + i < 2480 by omega) (by decide)) ?_
    rw [nI_clamp (show 248 * v + 8 * n + i < 2 ^ 31 by omega)]
    refine Ev_iincE rfl rfl (nI_1 i) ?_
    refine Ev_goto rfl ?_
    have hs : MF (fun q => Nat.beq q 373) cN0 σ (sI σ 373 (upd (σ.1 373) (248 * v + 8 * n + i) (nI (S b i)))) := MF.cell _ (by decide) rfl
    refine ih (i + 1) _ (by omega) (H.sc hs rfl rfl rfl rfl (fun q hq => by
      show Nat.beq q 373 = false
      apply nbeq
      intro z
      rw [z] at hq
      cases hq) (fun _ _ => rfl)) (fun v' m' i' a1 a2 a3 a4 => ?_) (fun j hj2 => ?_) (by rw [sR_1 _ _ (by decide)]; exact htb)
    · rw [sR_0, pk_un (by omega)]; exact hw v' m' i' a1 a2 a3 a4
    · rw [sR_0]
      by_cases hq : j = i
      · rw [hq, pk_us, hS]
      · rw [pk_un (by omega)]; exact hj j (by omega)
end S79
