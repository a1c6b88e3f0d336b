/-! A change: the class. -/
def cSw (k _ : Nat) : Bool := Nat.beq k 276 || Nat.beq k 277
theorem cSw_X {k j : Nat} (h : cX k j = false) : cSw k j = false := by
  unfold cSw
  rw [Bool.or_eq_false_iff]
  constructor
  · apply nbeq; intro z; subst z; cases h
  · apply nbeq; intro z; subst z; cases h
/-- the change found so far, what the sums are -/
def ChS (σ : St) (B : Bh) (P : Nat → Nat) (S : Str) (W : Nat → Nat) (h n : Nat) (r : Chg) : Prop := CPl σ 268 B P ∧ (∀ b, b < nb B → σ.1 287 b = nI (sBh B P S W h n b)) ∧ σ.1 267 13 = r.1 ∧ σ.1 267 14 = r.2.1 ∧ σ.1 267 15 = nI r.2.2
theorem nI_as {a b c : Nat} (h : c ≤ a + b) : nI a + (nI b - nI c) = nI (a + b - c) := by
  rw [Int32.sub_eq_add_neg, ← Int32.add_assoc, nI_add, ← Int32.sub_eq_add_neg]
  exact pk_sub h
section S88b
variable {l : Launch} {X : Cx} {ρ : Rf} {B : Bh} {q : Nat}
theorem t_swapRows (d : Nat) {σ : St} {j k : Nat} {P : Nat → Nat} (hρ : RF ρ) (hW : WfN B) (hc : CPl σ 268 B P) (hj : j < np B) (hk : k < np B) (hjk : j ≠ k) :
    T l X d 61 [.ref 268, .int (nI j), .int (nI k)] 402 402 ρ σ (fun v ρ' σ' => v = none ∧ ρ' = ρ ∧ CF cSw σ σ' ∧ CPl σ' 268 B (xgP P j k)) := by
  have n16 := hW.2.2.2.1
  have cj := hc.2 j hj
  have ck := hc.2 k hk
  refine T_of rfl ?_
  refine Ev_aload rfl rfl rfl ?_
  refine Ev_getR rfl (by first | rfl | assumption) (hρ _ _ _ rfl) ?_
  refine Ev_iload rfl rfl ?_
  refine Ev_iald rfl (by first | rfl | assumption) (vp_in_nI (n := j) (show j < 16 by omega) (by decide)) ?_
  refine Ev_norm (by rw [nI_clamp (by omega)]; exact cj.1 : _ = nI (P (2 * j))) ?_
  refine Ev_istore rfl ?_
  refine Ev_aload rfl rfl rfl ?_
  refine Ev_getR rfl (by first | rfl | assumption) (hρ _ _ _ rfl) ?_
  refine Ev_iload rfl rfl ?_
  refine Ev_iald rfl (by first | rfl | assumption) (vp_in_nI (n := j) (show j < 16 by omega) (by decide)) ?_
  refine Ev_norm (by rw [nI_clamp (by omega)]; exact cj.2 : _ = nI (P (2 * j + 1))) ?_
  refine Ev_istore rfl ?_
  refine Ev_aload rfl rfl rfl ?_
  refine Ev_getR rfl (by first | rfl | assumption) (hρ _ _ _ rfl) ?_
  refine Ev_iload rfl rfl ?_
  refine Ev_aload rfl rfl rfl ?_
  refine Ev_getR rfl (by first | rfl | assumption) (hρ _ _ _ rfl) ?_
  refine Ev_iload rfl rfl ?_
  refine Ev_iald rfl (by first | rfl | assumption) (vp_in_nI (n := k) (show k < 16 by omega) (by decide)) ?_
  refine Ev_norm (by rw [nI_clamp (by omega)]; exact ck.1 : _ = nI (P (2 * k))) ?_
  refine Ev_iast rfl (by first | rfl | assumption) (vp_in_nI (n := j) (show j < 16 by omega) (by decide)) ?_
  rw [nI_clamp (show j < 2 ^ 31 by omega)]
  refine Ev_aload rfl rfl rfl ?_
  refine Ev_getR rfl (by first | rfl | assumption) (hρ _ _ _ rfl) ?_
  refine Ev_iload rfl rfl ?_
  refine Ev_aload rfl rfl rfl ?_
  refine Ev_getR rfl (by first | rfl | assumption) (hρ _ _ _ rfl) ?_
  refine Ev_iload rfl rfl ?_
  refine Ev_iald rfl (by first | rfl | assumption) (vp_in_nI (n := k) (show k < 16 by omega) (by decide)) ?_
  refine Ev_norm (by rw [nI_clamp (by omega), sR_1 _ _ (by decide)]; exact ck.2 : _ = nI (P (2 * k + 1))) ?_
  refine Ev_iast rfl (by first | rfl | assumption) (vp_in_nI (n := j) (show j < 16 by omega) (by decide)) ?_
  rw [nI_clamp (show j < 2 ^ 31 by omega)]
  refine Ev_aload rfl rfl rfl ?_
  refine Ev_getR rfl (by first | rfl | assumption) (hρ _ _ _ rfl) ?_
  refine Ev_iload rfl rfl ?_
  refine Ev_iload rfl rfl ?_
  refine Ev_iast rfl (by first | rfl | assumption) (vp_in_nI (n := k) (show k < 16 by omega) (by decide)) ?_
  rw [nI_clamp (show k < 2 ^ 31 by omega)]
  refine Ev_aload rfl rfl rfl ?_
  refine Ev_getR rfl (by first | rfl | assumption) (hρ _ _ _ rfl) ?_
  refine Ev_iload rfl rfl ?_
  refine Ev_iload rfl rfl ?_
  refine Ev_iast rfl (by first | rfl | assumption) (vp_in_nI (n := k) (show k < 16 by omega) (by decide)) ?_
  rw [nI_clamp (show k < 2 ^ 31 by omega)]
  exact Ev_return rfl rfl rfl ⟨rfl, rfl, (((CF.put _ _ rfl).tr (CF.put _ _ rfl)).tr (CF.put _ _ rfl)).tr (CF.put _ _ rfl), by
  refine ⟨by rw [sR_1 _ _ (by decide), sR_1 _ _ (by decide), sR_1 _ _ (by decide), sR_1 _ _ (by decide)]; exact hc.1, fun x hx => ?_⟩
  show (sI _ _ _).1 276 x = _ ∧ (sI _ _ _).1 277 x = _
  simp only [sR_0, sR_1 _ _ (show (276 : Nat) ≠ 277 by decide), sR_1 _ _ (show (277 : Nat) ≠ 276 by decide)]
  by_cases h2 : x = k
  · subst h2; rw [pk_us, pk_us, (xgP_1 _ _ _).1, (xgP_1 _ _ _).2]; exact ⟨rfl, rfl⟩
  · rw [pk_un h2, pk_un h2]
    by_cases h1 : x = j
    · subst h1; rw [pk_us, pk_us, (xgP_0 _ _ _).1, (xgP_0 _ _ _).2]; exact ⟨rfl, rfl⟩
    · rw [pk_un h1, pk_un h1, (xgP_n h1 h2).1, (xgP_n h1 h2).2]; exact hc.2 x hx⟩
theorem t_isDue (d : Nat) {σ : St} {k h n : Nat} {P : Nat → Nat} (hρ : RF ρ) (hW : WfN B) (hc : CPl σ 32 B P) (hhr : σ.1 32 0 = nI h) (hk : k < np B) :
    T l X (d + 1) 20 [.ref 267, .int (nI k), .int (nI n)] 402 402 ρ σ (Rs (.int (bI (dueB h (np B) n k))) ρ σ) := by
  have n16 := hW.2.2.2.1
  refine T_of rfl ?_
  refine Ev_aload rfl rfl rfl ?_
  refine Ev_getR rfl (by first | rfl | assumption) (hρ _ _ _ rfl) ?_
  refine Ev_getI rfl (by first | rfl | assumption) ?_
  refine Ev_norm hc.1 ?_
  refine Ev_if_le rfl (fun h7 => absurd h7 (nI_nle (by omega) (by omega))) (fun h7 => ?_)
  refine Ev_iload rfl rfl ?_
  refine Ev_aload rfl rfl rfl ?_
  refine Ev_getR rfl (by first | rfl | assumption) (hρ _ _ _ rfl) ?_
  refine Ev_getI rfl (by first | rfl | assumption) ?_
  refine Ev_norm hhr ?_
  refine Ev_isub rfl ?_
  refine Ev_aload rfl rfl rfl ?_
  refine Ev_getR rfl (by first | rfl | assumption) (hρ _ _ _ rfl) ?_
  refine Ev_getI rfl (by first | rfl | assumption) ?_
  refine Ev_norm hc.1 ?_
  refine Ev_callS rfl rfl rfl rfl (same_n 402) (t_floorMod _ (nI_ne0 (by omega) (by omega))) ?_
  rintro v26 ρ26 σ26 ⟨rfl, e26, g26⟩
  obtain rfl := e26.symm
  obtain rfl := g26.symm
  refine Ev_iload rfl rfl ?_
  refine Ev_icmp_ge rfl (fun h30 => ?_) (fun h30 => ?_)
  · refine Ev_const rfl ?_
    exact Ev_ireturn rfl rfl rfl rfl ⟨by unfold dueB; rw [decide_eq_false (fun z => absurd z.2 (ge_nlt' h30))]; rfl, rfl, rfl⟩
  · refine Ev_const rfl ?_
    refine Ev_goto rfl ?_
    exact Ev_ireturn rfl rfl rfl rfl ⟨by unfold dueB; rw [decide_eq_true ⟨by omega, nle_lt h30⟩]; rfl, rfl, rfl⟩
theorem t_isSomething (d : Nat) {σ : St} {j k h n : Nat} {P : Nat → Nat} (hρ : RF ρ) (hW : WfN B) (hP : WfP B P) (hc : CPl σ 32 B P) (hhr : σ.1 32 0 = nI h) (hj : j < np B) (hk : k < np B) :
    T l X (d + 2) 19 [.ref 267, .int (nI j), .int (nI k), .int (nI n)] 402 402 ρ σ (Rs (.int (bI (smB B P h n j k))) ρ σ) := by
  have n16 := hW.2.2.2.1
  have n8 := hW.1
  have n6 := hW.2.1
  have cj := hc.2 j hj
  have ck := hc.2 k hk
  have pj := hP j hj
  have pk := hP k hk
  have one : ∀ {b : Bool}, ¬ bI b = 0 → b = true := rt_of
  refine T_of rfl ?_
  refine Ev_aload rfl rfl rfl ?_
  refine Ev_getR rfl (by first | rfl | assumption) (hρ _ _ _ rfl) ?_
  refine Ev_getR rfl (by first | rfl | assumption) (hρ _ _ _ rfl) ?_
  refine Ev_iload rfl rfl ?_
  refine Ev_iald rfl (by first | rfl | assumption) (vp_in_nI (n := j) (show j < 16 by omega) (by decide)) ?_
  refine Ev_norm (by rw [nI_clamp (by omega)]; exact cj.1 : _ = nI (P (2 * j))) ?_
  refine Ev_aload rfl rfl rfl ?_
  refine Ev_getR rfl (by first | rfl | assumption) (hρ _ _ _ rfl) ?_
  refine Ev_getR rfl (by first | rfl | assumption) (hρ _ _ _ rfl) ?_
  refine Ev_iload rfl rfl ?_
  refine Ev_iald rfl (by first | rfl | assumption) (vp_in_nI (n := k) (show k < 16 by omega) (by decide)) ?_
  refine Ev_norm (by rw [nI_clamp (by omega)]; exact ck.1 : _ = nI (P (2 * k))) ?_
  refine Ev_icmp_ne rfl (fun h18 => ?_) (fun h18 => ?_)
  · refine Ev_const rfl ?_
    refine Ev_istore rfl ?_
    refine Ev_iload rfl rfl ?_
    refine Ev_if_ne rfl (fun h51 => absurd rfl h51) (fun h51 => ?_)
    refine Ev_aload rfl rfl rfl ?_
    refine Ev_iload rfl rfl ?_
    refine Ev_iload rfl rfl ?_
    refine Ev_callV rfl rfl rfl rfl rfl (same_n 402) (t_isDue _ hρ hW hc hhr hj) ?_
    rintro v57 ρ57 σ57 ⟨rfl, e57, g57⟩
    obtain rfl := e57.symm
    obtain rfl := g57.symm
    refine Ev_if_ne rfl (fun h60 => ?_) (fun h60 => ?_)
    · refine Ev_const rfl ?_
      refine Ev_goto rfl ?_
      exact Ev_ireturn rfl rfl rfl rfl ⟨by unfold smB; rw [decide_eq_false (fun z => h18 (by rw [z.1])), one h60]; rfl, rfl, rfl⟩
    · refine Ev_aload rfl rfl rfl ?_
      refine Ev_iload rfl rfl ?_
      refine Ev_iload rfl rfl ?_
      refine Ev_callV rfl rfl rfl rfl rfl (same_n 402) (t_isDue _ hρ hW hc hhr hk) ?_
      rintro v66 ρ66 σ66 ⟨rfl, e66, g66⟩
      obtain rfl := e66.symm
      obtain rfl := g66.symm
      refine Ev_if_eq rfl (fun h69 => ?_) (fun h69 => ?_)
      · refine Ev_const rfl ?_
        exact Ev_ireturn rfl rfl rfl rfl ⟨by unfold smB; rw [decide_eq_false (fun z => h18 (by rw [z.1])), ff_of (Decidable.not_not.mp h60), ff_of h69]; rfl, rfl, rfl⟩
      · refine Ev_const rfl ?_
        refine Ev_goto rfl ?_
        exact Ev_ireturn rfl rfl rfl rfl ⟨by unfold smB; rw [decide_eq_false (fun z => h18 (by rw [z.1])), one h69, Bool.or_true]; rfl, rfl, rfl⟩
  · refine Ev_aload rfl rfl rfl ?_
    refine Ev_getR rfl (by first | rfl | assumption) (hρ _ _ _ rfl) ?_
    refine Ev_getR rfl (by first | rfl | assumption) (hρ _ _ _ rfl) ?_
    refine Ev_iload rfl rfl ?_
    refine Ev_iald rfl (by first | rfl | assumption) (vp_in_nI (n := j) (show j < 16 by omega) (by decide)) ?_
    refine Ev_norm (by rw [nI_clamp (by omega)]; exact cj.2 : _ = nI (P (2 * j + 1))) ?_
    refine Ev_aload rfl rfl rfl ?_
    refine Ev_getR rfl (by first | rfl | assumption) (hρ _ _ _ rfl) ?_
    refine Ev_getR rfl (by first | rfl | assumption) (hρ _ _ _ rfl) ?_
    refine Ev_iload rfl rfl ?_
    refine Ev_iald rfl (by first | rfl | assumption) (vp_in_nI (n := k) (show k < 16 by omega) (by decide)) ?_
    refine Ev_norm (by rw [nI_clamp (by omega)]; exact ck.2 : _ = nI (P (2 * k + 1))) ?_
    refine Ev_icmp_ne rfl (fun h39 => ?_) (fun h39 => ?_)
    · refine Ev_const rfl ?_
      refine Ev_istore rfl ?_
      refine Ev_iload rfl rfl ?_
      refine Ev_if_ne rfl (fun h51 => absurd rfl h51) (fun h51 => ?_)
      refine Ev_aload rfl rfl rfl ?_
      refine Ev_iload rfl rfl ?_
      refine Ev_iload rfl rfl ?_
      refine Ev_callV rfl rfl rfl rfl rfl (same_n 402) (t_isDue _ hρ hW hc hhr hj) ?_
      rintro v57 ρ57 σ57 ⟨rfl, e57, g57⟩
      obtain rfl := e57.symm
      obtain rfl := g57.symm
      refine Ev_if_ne rfl (fun h60 => ?_) (fun h60 => ?_)
      · refine Ev_const rfl ?_
        refine Ev_goto rfl ?_
        exact Ev_ireturn rfl rfl rfl rfl ⟨by unfold smB; rw [decide_eq_false (fun z => h39 (by rw [z.2])), one h60]; rfl, rfl, rfl⟩
      · refine Ev_aload rfl rfl rfl ?_
        refine Ev_iload rfl rfl ?_
        refine Ev_iload rfl rfl ?_
        refine Ev_callV rfl rfl rfl rfl rfl (same_n 402) (t_isDue _ hρ hW hc hhr hk) ?_
        rintro v66 ρ66 σ66 ⟨rfl, e66, g66⟩
        obtain rfl := e66.symm
        obtain rfl := g66.symm
        refine Ev_if_eq rfl (fun h69 => ?_) (fun h69 => ?_)
        · refine Ev_const rfl ?_
          exact Ev_ireturn rfl rfl rfl rfl ⟨by unfold smB; rw [decide_eq_false (fun z => h39 (by rw [z.2])), ff_of (Decidable.not_not.mp h60), ff_of h69]; rfl, rfl, rfl⟩
        · refine Ev_const rfl ?_
          refine Ev_goto rfl ?_
          exact Ev_ireturn rfl rfl rfl rfl ⟨by unfold smB; rw [decide_eq_false (fun z => h39 (by rw [z.2])), one h69, Bool.or_true]; rfl, rfl, rfl⟩
    · refine Ev_const rfl ?_
      refine Ev_goto rfl ?_
      refine Ev_istore rfl ?_
      refine Ev_iload rfl rfl ?_
      refine Ev_if_ne rfl (fun h51 => ?_) (fun h51 => absurd (by decide) h51)
      refine Ev_const rfl ?_
      exact Ev_ireturn rfl rfl rfl rfl ⟨by unfold smB; rw [decide_eq_true ⟨(nI_eq (by omega) (by omega)).mp (Decidable.not_not.mp h18), (nI_eq (by omega) (by omega)).mp (Decidable.not_not.mp h39)⟩]; rfl, rfl, rfl⟩
theorem t_sumBehind (d : Nat) {σ : St} {b h n : Nat} {S : Str} {P : Nat → Nat} (hR : CRd ρ σ q B) (hW : WfN B) (hWt : WfT B) (hWf : WfF B) (hP : WfP B P) (hc : CPl σ 268 B P) (hS : CStr σ S) (hSw : WfS B S) (hhr : σ.1 32 0 = nI h) (hh : h + n ≤ 2000) (hb : b < nb B) :
    T l X (d + 6) 12 [.ref 267, .ref 268, .int (nI b), .int (nI (wit B b)), .int (nI n)] 402 402 ρ σ (fun v ρ' σ' => v = some (.int (nI (sBh B P S (wit B) h n b))) ∧ ρ' = ρ ∧ CF (cLr 279) σ σ') :=
  (t_runRow d hR hW hWt hWf (Or.inr rfl) hP hc hS hSw hhr (hWt.2.1 b hb).2 hh hb).mono (fun v ρ' σ' hq => ⟨hq.1, hq.2.1, hq.2.2.1⟩)
theorem ev_q7 {σ : St} (hR : CRd ρ σ q B) : isO 402 q 0 = true ∧ ρ q 6 = some (q + 7) ∧ isA 402 (q + 7) 0 = true ∧ (shp (q + 7)).2 = 6 := by
  rcases hR.2.1 with rfl | rfl
  · exact ⟨rfl, hR.1 _ _ _ rfl, rfl, rfl⟩
  · exact ⟨rfl, hR.1 _ _ _ rfl, rfl, rfl⟩
theorem cR_Xs {σ σ' : St} (h : CF (cLr 279) σ σ') : CF cX σ σ' := h.wk (fun _ _ q => cR_X q)
theorem cR_f {k j : Nat} (h : k ≠ 16 ∧ k ≠ 31 ∧ k ≠ 265 ∧ k ≠ 266) (h2 : k ≠ 279) : cLr 279 k j = false := cLr_f (by omega) h2
theorem CStr.cx {σ σ' : St} {S : Str} (H : CStr σ S) (hs : CF cX σ σ') : CStr σ' S := fun b hb i hi => by rw [hs.1 (34 + b) i (cX_p (by omega))]; exact H b hb i hi
theorem CPl.cx {σ σ' : St} {P : Nat → Nat} (H : CPl σ 32 B P) (hs : CF cX σ σ') : CPl σ' 32 B P := H.cf hs (fun j => cX_p (by omega)) (fun j => cX_p (by omega)) (fun j => cX_p (by omega))
theorem t_tryChange (d : Nat) {σ : St} {j k h n : Nat} {S : Str} {P : Nat → Nat} {r : Chg} (hR : CRd ρ σ q B) (hW : WfN B) (hWt : WfT B) (hWf : WfF B) (hP : WfP B P) (hc : CPl σ 32 B P) (hS : CStr σ S) (hSw : WfS B S) (hhr : σ.1 32 0 = nI h) (hh : h + n ≤ 2000) (hj : j < np B) (hk : k < np B) (hjk : j ≠ k) (hr : r.2.2 ≤ 4752) (H : ChS σ B P S (wit B) h n r) :
    T l X (d + 8) 21 [.ref 267, .int (nI j), .int (nI k), .int (nI n), .int (nI (sTo B P S (wit B) h n))] 402 402 ρ σ (fun v ρ' σ' => v = none ∧ ρ' = ρ ∧ CF cX σ σ' ∧ ChS σ' B P S (wit B) h n (chU (sTo B (xgP P j k) S (wit B) h n) (nI j) (nI k) r)) := by
  have hρ := hR.1
  have n16 := hW.2.2.2.1
  have n6 := hW.2.1
  obtain ⟨g1, g2, g3, g4, g5⟩ := H
  have cj := hc.2 j hj
  have ck := hc.2 k hk
  have pj := hP j hj
  have pk := hP k hk
  have hP2 := xgP_wf hP hj hk
  have b1 := sTo_le (W := wit B) (h := h) (n := n) hW hP hSw
  have b2 := sTo_le (W := wit B) (h := h) (n := n) hW hP2 hSw
  have l1 : sBh B P S (wit B) h n (P (2 * j)) ≤ sTo B P S (wit B) h n := le_sumf _ pj.1
  obtain ⟨w1, w2⟩ := sTo_sw (S := S) (W := wit B) (h := h) (n := n) hP hj hk
  -- behind the sum
  have fin : ∀ σ1, CF cX σ σ1 → CPl σ1 268 B (xgP P j k) → (∀ b, b < nb B → σ1.1 287 b = nI (sBh B P S (wit B) h n b)) → σ1.1 267 = σ.1 267 →
      Ev l X (d + 8) 21 112 [.ref 267, .int (nI j), .int (nI k), .int (nI n), .int (nI (sTo B P S (wit B) h n)), .int (nI (P (2 * j))), .int (nI (P (2 * k))), .int (nI (sTo B (xgP P j k) S (wit B) h n))] [] 402 402 402 ρ σ1 (fun v ρ' σ' => v = none ∧ ρ' = ρ ∧ CF cX σ σ' ∧ ChS σ' B P S (wit B) h n (chU (sTo B (xgP P j k) S (wit B) h n) (nI j) (nI k) r)) := by
    intro σ1 c1 p1 s1 f1
    refine Ev_aload rfl rfl rfl ?_
    refine Ev_getR rfl (by first | rfl | assumption) (hρ _ _ _ rfl) ?_
    refine Ev_iload rfl rfl ?_
    refine Ev_iload rfl rfl ?_
    refine Ev_callV rfl rfl rfl rfl rfl (same_n 402) (t_swapRows _ hρ hW p1 hj hk hjk) ?_
    rintro v118 ρ118 σ118 ⟨rfl, e118, s118, p84⟩
    obtain rfl := e118.symm
    rw [xgP_sw] at p84
    have c118 : CF cX σ σ118 := c1.tr (s118.wk (fun _ _ q => cSw_X q))
    have f84 : σ118.1 267 = σ.1 267 := (funext fun x => s118.1 267 x rfl).trans f1
    have m84 : ∀ b, b < nb B → σ118.1 287 b = nI (sBh B P S (wit B) h n b) := fun b hb => by rw [s118.1 287 b rfl]; exact s1 b hb
    refine Ev_iload rfl rfl ?_
    refine Ev_aload rfl rfl rfl ?_
    refine Ev_getI rfl (by first | rfl | assumption) ?_
    refine Ev_norm (by rw [f84]; exact g5 : _ = nI r.2.2) ?_
    refine Ev_icmp_le rfl (fun h127 => ?_) (fun h127 => ?_)
    · exact Ev_return rfl rfl rfl ⟨rfl, rfl, c118, by rw [chU_no ((nI_leI (by omega) (by omega)).mp h127)]; exact ⟨p84, m84, by rw [f84]; exact g3, by rw [f84]; exact g4, by rw [f84]; exact g5⟩⟩
    · refine Ev_aload rfl rfl rfl ?_
      refine Ev_iload rfl rfl ?_
      refine Ev_putI rfl (by first | rfl | assumption) ⟨rfl, rfl⟩ rfl ?_
      refine Ev_aload rfl rfl rfl ?_
      refine Ev_iload rfl rfl ?_
      refine Ev_putI rfl (by first | rfl | assumption) ⟨rfl, rfl⟩ rfl ?_
      refine Ev_aload rfl rfl rfl ?_
      refine Ev_iload rfl rfl ?_
      refine Ev_putI rfl (by first | rfl | assumption) ⟨rfl, rfl⟩ rfl ?_
      exact Ev_return rfl rfl rfl ⟨rfl, rfl, ((c118.tr (CF.put _ _ rfl)).tr (CF.put _ _ rfl)).tr (CF.put _ _ rfl), by
      have hlt : r.2.2 < sTo B (xgP P j k) S (wit B) h n := Nat.lt_of_not_le (fun z => h127 (nI_le z (by omega)))
      unfold chU
      rw [if_pos hlt]
      exact ⟨⟨p84.1, p84.2⟩, m84, rfl, rfl, rfl⟩⟩
  refine T_of rfl ?_
  refine Ev_aload rfl rfl rfl ?_
  refine Ev_getR rfl (by first | rfl | assumption) (hρ _ _ _ rfl) ?_
  refine Ev_iload rfl rfl ?_
  refine Ev_iload rfl rfl ?_
  refine Ev_callV rfl rfl rfl rfl rfl (same_n 402) (t_swapRows _ hρ hW g1 hj hk hjk) ?_
  rintro v6 ρ6 σ6 ⟨rfl, e6, s6, p6⟩
  obtain rfl := e6.symm
  have c6 : CF cX σ σ6 := s6.wk (fun _ _ q => cSw_X q)
  have f6 : σ6.1 267 = σ.1 267 := funext fun x => s6.1 267 x rfl
  have m6 : ∀ b, b < nb B → σ6.1 287 b = nI (sBh B P S (wit B) h n b) := fun b hb => by rw [s6.1 287 b rfl]; exact g2 b hb
  refine Ev_aload rfl rfl rfl ?_
  refine Ev_getR rfl (by first | rfl | assumption) (hρ _ _ _ rfl) ?_
  refine Ev_getR rfl (by first | rfl | assumption) (hρ _ _ _ rfl) ?_
  refine Ev_iload rfl rfl ?_
  refine Ev_iald rfl (by first | rfl | assumption) (vp_in_nI (n := j) (show j < 16 by omega) (by decide)) ?_
  refine Ev_norm (by rw [nI_clamp (by omega), s6.1 40 j rfl]; exact cj.1 : _ = nI (P (2 * j))) ?_
  refine Ev_istore rfl ?_
  refine Ev_aload rfl rfl rfl ?_
  refine Ev_getR rfl (by first | rfl | assumption) (hρ _ _ _ rfl) ?_
  refine Ev_getR rfl (by first | rfl | assumption) (hρ _ _ _ rfl) ?_
  refine Ev_iload rfl rfl ?_
  refine Ev_iald rfl (by first | rfl | assumption) (vp_in_nI (n := k) (show k < 16 by omega) (by decide)) ?_
  refine Ev_norm (by rw [nI_clamp (by omega), s6.1 40 k rfl]; exact ck.1 : _ = nI (P (2 * k))) ?_
  refine Ev_istore rfl ?_
  refine Ev_iload rfl rfl ?_
  refine Ev_aload rfl rfl rfl ?_
  refine Ev_getR rfl (by first | rfl | assumption) (hρ _ _ _ rfl) ?_
  refine Ev_iload rfl rfl ?_
  refine Ev_iald rfl (by first | rfl | assumption) (vp_in_nI (n := P (2 * j)) (show P (2 * j) < 6 by omega) (by decide)) ?_
  refine Ev_norm (by rw [nI_clamp (by omega)]; exact m6 _ pj.1 : _ = nI (sBh B P S (wit B) h n (P (2 * j)))) ?_
  refine Ev_isub rfl ?_
  refine Ev_norm (pk_sub l1 : _ = nI (sTo B P S (wit B) h n - sBh B P S (wit B) h n (P (2 * j)))) ?_
  refine Ev_aload rfl rfl rfl ?_
  refine Ev_aload rfl rfl rfl ?_
  refine Ev_getR rfl (by first | rfl | assumption) (hρ _ _ _ rfl) ?_
  refine Ev_iload rfl rfl ?_
  refine Ev_aload rfl rfl rfl ?_
  refine Ev_getR rfl (by first | rfl | assumption) (hρ _ _ _ rfl) ?_
  refine Ev_getR rfl (by first | rfl | assumption) hR.2.2.1 ?_
  refine Ev_getR rfl ((ev_q7 hR).1) ((ev_q7 hR).2.1) ?_
  refine Ev_iload rfl rfl ?_
  refine Ev_iald rfl ((ev_q7 hR).2.2.1) (by rw [(ev_q7 hR).2.2.2]; exact vp_in_nI (n := P (2 * j)) (show P (2 * j) < 6 by omega) (by decide)) ?_
  refine Ev_norm (by rw [nI_clamp (by omega)]; exact ev_wit (hR.cx c6) pj.1 : _ = nI (wit B (P (2 * j)))) ?_
  refine Ev_iload rfl rfl ?_
  refine Ev_callV rfl rfl rfl rfl rfl (same_n 402) (t_sumBehind _ (hR.cx c6) hW hWt hWf hP2 p6 (hS.cx c6) hSw (by rw [c6.1 32 _ (cX_p (by decide))]; exact hhr) hh pj.1) ?_
  rintro v62 ρ62 σ62 ⟨rfl, e62, s62⟩
  obtain rfl := e62.symm
  have c62 : CF cX σ σ62 := c6.tr (cR_Xs s62)
  have f62 : σ62.1 267 = σ.1 267 := (funext fun x => s62.1 267 x (cR_f (by decide) (by decide))).trans f6
  have m62 : ∀ b, b < nb B → σ62.1 287 b = nI (sBh B P S (wit B) h n b) := fun b hb => by rw [s62.1 287 b (cR_f (by decide) (by decide))]; exact m6 b hb
  have p62 : CPl σ62 268 B (xgP P j k) := p6.cf s62 (fun x => cR_f (by decide) (by decide)) (fun x => cR_f (by decide) (by decide)) (fun x => cR_f (by decide) (by decide))
  refine Ev_iadd rfl ?_
  refine Ev_norm (nI_add _ _) ?_
  refine Ev_istore rfl ?_
  refine Ev_iload rfl rfl ?_
  refine Ev_iload rfl rfl ?_
  refine Ev_icmp_eq rfl (fun h72 => ?_) (fun h72 => ?_)
  · have he : P (2 * j) = P (2 * k) := ((nI_eq (by omega) (by omega)).mp h72).symm
    have hv : sTo B P S (wit B) h n - sBh B P S (wit B) h n (P (2 * j)) + sBh B (xgP P j k) S (wit B) h n (P (2 * j)) = sTo B (xgP P j k) S (wit B) h n := by have := w1 he; omega
    rw [hv]
    exact fin σ62 c62 p62 m62 f62
  · refine Ev_iload rfl rfl ?_
    refine Ev_aload rfl rfl rfl ?_
    refine Ev_aload rfl rfl rfl ?_
    refine Ev_getR rfl (by first | rfl | assumption) (hρ _ _ _ rfl) ?_
    refine Ev_iload rfl rfl ?_
    refine Ev_aload rfl rfl rfl ?_
    refine Ev_getR rfl (by first | rfl | assumption) (hρ _ _ _ rfl) ?_
    refine Ev_getR rfl (by first | rfl | assumption) hR.2.2.1 ?_
    refine Ev_getR rfl ((ev_q7 hR).1) ((ev_q7 hR).2.1) ?_
    refine Ev_iload rfl rfl ?_
    refine Ev_iald rfl ((ev_q7 hR).2.2.1) (by rw [(ev_q7 hR).2.2.2]; exact vp_in_nI (n := P (2 * k)) (show P (2 * k) < 6 by omega) (by decide)) ?_
    refine Ev_norm (by rw [nI_clamp (by omega)]; exact ev_wit (hR.cx c62) pk.1 : _ = nI (wit B (P (2 * k)))) ?_
    refine Ev_iload rfl rfl ?_
    refine Ev_callV rfl rfl rfl rfl rfl (same_n 402) (t_sumBehind _ (hR.cx c62) hW hWt hWf hP2 p62 (hS.cx c62) hSw (by rw [c62.1 32 _ (cX_p (by decide))]; exact hhr) hh pk.1) ?_
    rintro v98 ρ98 σ98 ⟨rfl, e98, s98⟩
    obtain rfl := e98.symm
    refine Ev_aload rfl rfl rfl ?_
    refine Ev_getR rfl (by first | rfl | assumption) (hρ _ _ _ rfl) ?_
    refine Ev_iload rfl rfl ?_
    refine Ev_iald rfl (by first | rfl | assumption) (vp_in_nI (n := P (2 * k)) (show P (2 * k) < 6 by omega) (by decide)) ?_
    refine Ev_norm (by rw [nI_clamp (by omega), s98.1 287 _ (cR_f (by decide) (by decide))]; exact m62 _ pk.1 : _ = nI (sBh B P S (wit B) h n (P (2 * k)))) ?_
    refine Ev_isub rfl ?_
    refine Ev_iadd rfl ?_
    refine Ev_norm (show _ = nI (sTo B (xgP P j k) S (wit B) h n) by
    have := w2 (fun z => h72 (by rw [z]))
    rw [nI_as (by omega)]
    congr 1
    omega) ?_
    refine Ev_istore rfl ?_
    exact fin σ98 (c62.tr (cR_Xs s98)) (p62.cf s98 (fun x => cR_f (by decide) (by decide)) (fun x => cR_f (by decide) (by decide)) (fun x => cR_f (by decide) (by decide))) (fun b hb => by rw [s98.1 287 b (cR_f (by decide) (by decide))]; exact m62 b hb) ((funext fun x => s98.1 267 x (cR_f (by decide) (by decide))).trans f62)
theorem cg_in {d j h n : Nat} {S : Str} {P : Nat → Nat} {R : Chg} {Q : Po} (hW : WfN B) (hWt : WfT B) (hWf : WfF B) (hP : WfP B P) (hSw : WfS B S) (hh : h ≤ 999) (hn : 0 < n) (hn2 : n ≤ 30) (hj : j < np B) (σ0 : St) (hc0 : CPl σ0 32 B P) (hS0 : CStr σ0 S) (hhr0 : σ0.1 32 0 = nI h)
    (hQ : ∀ σ, CF cX σ0 σ → CRd ρ σ q B → ChS σ B P S (wit B) h n R → Ev l X (d + 9) 18 152 [.ref 267, .int (nI n), .int (nI (sTo B P S (wit B) h n)), .int (nI j), .int (nI (np B))] [] 402 402 402 ρ σ Q) :
    ∀ (m k : Nat) (σ : St) (r : Chg), k + m = np B → j < k → CF cX σ0 σ → CRd ρ σ q B → ChS σ B P S (wit B) h n r → sTo B P S (wit B) h n ≤ r.2.2 → r.2.2 ≤ 4752 → chI (fun j k => sTo B (xgP P j k) S (wit B) h n) j m k r = R →
    Ev l X (d + 9) 18 114 [.ref 267, .int (nI n), .int (nI (sTo B P S (wit B) h n)), .int (nI j), .int (nI k)] [] 402 402 402 ρ σ Q := by
  have n16 := hW.2.2.2.1
  intro m
  induction m with
  | zero =>
    intro k σ r hk hjk hs hR H hge hle he
    have hk : k = np B := by omega
    subst hk
    have he : r = R := he
    subst he
    have hρ := hR.1
    have hc := hc0.cx hs
    refine Ev_iload rfl rfl ?_
    refine Ev_aload rfl rfl rfl ?_
    refine Ev_getR rfl (by first | rfl | assumption) (hρ _ _ _ rfl) ?_
    refine Ev_getI rfl (by first | rfl | assumption) ?_
    refine Ev_norm hc.1 ?_
    refine Ev_icmp_ge rfl (fun h123 => ?_) (fun h123 => absurd (nI_le (Nat.le_refl _) (by omega)) h123)
    exact hQ σ hs hR H
  | succ m ih =>
    intro k σ r hk hjk hs hR H hge hle he
    have hρ := hR.1
    have hc := hc0.cx hs
    have hhr : σ.1 32 0 = nI h := by rw [hs.1 32 _ (cX_p (by decide))]; exact hhr0
    have b2 := sTo_le (W := wit B) (h := h) (n := n) hW (xgP_wf (j := j) (k := k) hP hj (by omega)) hSw
    have he : chI (fun j k => sTo B (xgP P j k) S (wit B) h n) j m (k + 1) (chU (sTo B (xgP P j k) S (wit B) h n) (nI j) (nI k) r) = R := he
    refine Ev_iload rfl rfl ?_
    refine Ev_aload rfl rfl rfl ?_
    refine Ev_getR rfl (by first | rfl | assumption) (hρ _ _ _ rfl) ?_
    refine Ev_getI rfl (by first | rfl | assumption) ?_
    refine Ev_norm hc.1 ?_
    refine Ev_icmp_ge rfl (fun h123 => absurd h123 (nI_ge (by omega) (by omega))) (fun h123 => ?_)
    refine Ev_aload rfl rfl rfl ?_
    refine Ev_iload rfl rfl ?_
    refine Ev_iload rfl rfl ?_
    refine Ev_iload rfl rfl ?_
    refine Ev_callV rfl rfl rfl rfl rfl (same_n 402) (t_isSomething _ hρ hW hP hc hhr hj (by omega)) ?_
    rintro v131 ρ131 σ131 ⟨rfl, e131, g131⟩
    obtain rfl := e131.symm
    obtain rfl := g131.symm
    refine Ev_if_eq rfl (fun h134 => ?_) (fun h134 => ?_)
    · refine Ev_iincE rfl rfl (nI_1 k) ?_
      refine Ev_goto rfl ?_
      have hno := smB_no (S := S) (W := wit B) hW hj (show k < np B by omega) hh hn hn2 (ff_of h134)
      rw [chU_no (by rw [hno]; exact hge)] at he
      exact ih (k + 1) σ r (by omega) (by omega) hs hR H hge hle he
    · refine Ev_aload rfl rfl rfl ?_
      refine Ev_iload rfl rfl ?_
      refine Ev_iload rfl rfl ?_
      refine Ev_iload rfl rfl ?_
      refine Ev_iload rfl rfl ?_
      refine Ev_callV rfl rfl rfl rfl rfl (same_n 402) (t_tryChange _ hR hW hWt hWf hP hc (hS0.cx hs) hSw hhr (by omega) hj (by omega) (by omega) hle H) ?_
      rintro v143 ρ143 σ143 ⟨rfl, e143, s143, c143⟩
      obtain rfl := e143.symm
      refine Ev_iincE rfl rfl (nI_1 k) ?_
      refine Ev_goto rfl ?_
      exact ih (k + 1) σ143 _ (by omega) (by omega) (hs.tr s143) (hR.cx s143) c143 (Nat.le_trans hge (chU_ge _ _ _ _)) (by unfold chU; split <;> assumption) he
theorem cg_out {d h n : Nat} {S : Str} {P : Nat → Nat} {R : Chg} {Q : Po} (hW : WfN B) (hWt : WfT B) (hWf : WfF B) (hP : WfP B P) (hSw : WfS B S) (hh : h ≤ 999) (hn : 0 < n) (hn2 : n ≤ 30) (σ0 : St) (hc0 : CPl σ0 32 B P) (hS0 : CStr σ0 S) (hhr0 : σ0.1 32 0 = nI h)
    (hQ : ∀ σ, CF cX σ0 σ → CRd ρ σ q B → ChS σ B P S (wit B) h n R → Q none ρ σ) :
    ∀ (m j : Nat) (σ : St) (r : Chg) (w4 : Value), j + m = np B → CF cX σ0 σ → CRd ρ σ q B → ChS σ B P S (wit B) h n r → sTo B P S (wit B) h n ≤ r.2.2 → r.2.2 ≤ 4752 → chO (fun j k => sTo B (xgP P j k) S (wit B) h n) (np B) m j r = R →
    Ev l X (d + 9) 18 98 [.ref 267, .int (nI n), .int (nI (sTo B P S (wit B) h n)), .int (nI j), w4] [] 402 402 402 ρ σ Q := by
  have n16 := hW.2.2.2.1
  intro m
  induction m with
  | zero =>
    intro j σ r w4 hj hs hR H hge hle he
    have hj : j = np B := by omega
    subst hj
    have he : r = R := he
    subst he
    have hρ := hR.1
    have hc := hc0.cx hs
    refine Ev_iload rfl rfl ?_
    refine Ev_aload rfl rfl rfl ?_
    refine Ev_getR rfl (by first | rfl | assumption) (hρ _ _ _ rfl) ?_
    refine Ev_getI rfl (by first | rfl | assumption) ?_
    refine Ev_norm hc.1 ?_
    refine Ev_icmp_ge rfl (fun h106 => ?_) (fun h106 => absurd (nI_le (Nat.le_refl _) (by omega)) h106)
    exact Ev_return rfl rfl rfl (hQ σ hs hR H)
  | succ m ih =>
    intro j σ r w4 hj hs hR H hge hle he
    have hρ := hR.1
    have hc := hc0.cx hs
    have he : chO (fun j k => sTo B (xgP P j k) S (wit B) h n) (np B) m (j + 1) (chI (fun j k => sTo B (xgP P j k) S (wit B) h n) j (np B - (j + 1)) (j + 1) r) = R := he
    have hle2 : (chI (fun j k => sTo B (xgP P j k) S (wit B) h n) j (np B - (j + 1)) (j + 1) r).2.2 ≤ 4752 := by
      -- the rows' sums are bounded where the rows are there
      have key : ∀ (m k : Nat) (r : Chg), k + m = np B → r.2.2 ≤ 4752 → (chI (fun j k => sTo B (xgP P j k) S (wit B) h n) j m k r).2.2 ≤ 4752 := by
        intro m
        induction m with
        | zero => exact fun _ _ _ h => h
        | succ m ih =>
          intro k r hk h
          refine ih (k + 1) _ (by omega) ?_
          unfold chU
          split
          · exact sTo_le hW (xgP_wf hP (by omega) (by omega)) hSw
          · exact h
      exact key _ _ _ (by omega) hle
    refine Ev_iload rfl rfl ?_
    refine Ev_aload rfl rfl rfl ?_
    refine Ev_getR rfl (by first | rfl | assumption) (hρ _ _ _ rfl) ?_
    refine Ev_getI rfl (by first | rfl | assumption) ?_
    refine Ev_norm hc.1 ?_
    refine Ev_icmp_ge rfl (fun h106 => absurd h106 (nI_ge (by omega) (by omega))) (fun h106 => ?_)
    refine Ev_iload rfl rfl ?_
    refine Ev_const rfl ?_
    refine Ev_iadd rfl ?_
    refine Ev_norm (nI_1 j) ?_
    refine Ev_istore rfl ?_
    refine cg_in (d := d) hW hWt hWf hP hSw hh hn hn2 (show j < np B by omega) σ0 hc0 hS0 hhr0 (fun σ1 c1 r1 H1 => ?_) (np B - (j + 1)) (j + 1) σ r (by omega) (by omega) hs hR H hge hle rfl
    refine Ev_iincE rfl rfl (nI_1 j) ?_
    refine Ev_goto rfl ?_
    exact ih (j + 1) σ1 _ _ (by omega) c1 r1 H1 (Nat.le_trans hge (chI_ge _ _ _ _ _)) hle2 he
theorem cs_loop {d h n : Nat} {S : Str} {P : Nat → Nat} {Q : Po} (hW : WfN B) (hWt : WfT B) (hWf : WfF B) (hP : WfP B P) (hSw : WfS B S) (hh : h ≤ 999) (hn : 0 < n) (hn2 : n ≤ 30) (σ0 : St) (hS0 : CStr σ0 S) (hhr0 : σ0.1 32 0 = nI h)
    (hQ : ∀ σ, CF cX σ0 σ → CRd ρ σ q B → ChS σ B P S (wit B) h n (-1, -1, sTo B P S (wit B) h n) → Ev l X (d + 9) 18 91 [.ref 267, .int (nI n), .int (nI (nb B)), .float 0, .float 0] [] 402 402 402 ρ σ Q) :
    ∀ (m b : Nat) (σ : St), b + m = nb B → CF cX σ0 σ → CRd ρ σ q B → CPl σ 268 B P → (∀ b', b' < b → σ.1 287 b' = nI (sBh B P S (wit B) h n b')) → σ.1 267 13 = -1 → σ.1 267 14 = -1 → σ.1 267 15 = nI (sumf b (sBh B P S (wit B) h n)) →
    Ev l X (d + 9) 18 28 [.ref 267, .int (nI n), .int (nI b), .float 0, .float 0] [] 402 402 402 ρ σ Q := by
  have n6 := hW.2.1
  intro m
  induction m with
  | zero =>
    intro b σ hb hs hR hp g2 g3 g4 g5
    have hb : b = nb B := by omega
    subst hb
    have hρ := hR.1
    refine Ev_iload rfl rfl ?_
    refine Ev_aload rfl rfl rfl ?_
    refine Ev_getR rfl (by first | rfl | assumption) (hρ _ _ _ rfl) ?_
    refine Ev_getR rfl (by first | rfl | assumption) hR.2.2.1 ?_
    refine Ev_getI rfl (by rcases hR.2.1 with rfl | rfl <;> rfl) ?_
    refine Ev_norm hR.2.2.2.1.2.2.1 ?_
    refine Ev_icmp_ge rfl (fun h39 => ?_) (fun h39 => absurd (nI_le (Nat.le_refl _) (by omega)) h39)
    exact hQ σ hs hR ⟨hp, g2, g3, g4, g5⟩
  | succ m ih =>
    intro b σ hb hs hR hp g2 g3 g4 g5
    have hρ := hR.1
    have hhr : σ.1 32 0 = nI h := by rw [hs.1 32 _ (cX_p (by decide))]; exact hhr0
    refine Ev_iload rfl rfl ?_
    refine Ev_aload rfl rfl rfl ?_
    refine Ev_getR rfl (by first | rfl | assumption) (hρ _ _ _ rfl) ?_
    refine Ev_getR rfl (by first | rfl | assumption) hR.2.2.1 ?_
    refine Ev_getI rfl (by rcases hR.2.1 with rfl | rfl <;> rfl) ?_
    refine Ev_norm hR.2.2.2.1.2.2.1 ?_
    refine Ev_icmp_ge rfl (fun h39 => absurd h39 (nI_ge (by omega) (by omega))) (fun h39 => ?_)
    refine Ev_aload rfl rfl rfl ?_
    refine Ev_getR rfl (by first | rfl | assumption) (hρ _ _ _ rfl) ?_
    refine Ev_iload rfl rfl ?_
    refine Ev_aload rfl rfl rfl ?_
    refine Ev_aload rfl rfl rfl ?_
    refine Ev_getR rfl (by first | rfl | assumption) (hρ _ _ _ rfl) ?_
    refine Ev_iload rfl rfl ?_
    refine Ev_aload rfl rfl rfl ?_
    refine Ev_getR rfl (by first | rfl | assumption) (hρ _ _ _ rfl) ?_
    refine Ev_getR rfl (by first | rfl | assumption) hR.2.2.1 ?_
    refine Ev_getR rfl ((ev_q7 hR).1) ((ev_q7 hR).2.1) ?_
    refine Ev_iload rfl rfl ?_
    refine Ev_iald rfl ((ev_q7 hR).2.2.1) (by rw [(ev_q7 hR).2.2.2]; exact vp_in_nI (n := b) (show b < 6 by omega) (by decide)) ?_
    refine Ev_norm (by rw [nI_clamp (by omega)]; exact ev_wit hR (show b < nb B by omega) : _ = nI (wit B b)) ?_
    refine Ev_iload rfl rfl ?_
    refine Ev_callV rfl rfl rfl rfl rfl (same_n 402) (t_sumBehind _ hR hW hWt hWf hP hp (hS0.cx hs) hSw hhr (by omega) (by omega)) ?_
    rintro v66 ρ66 σ66 ⟨rfl, e66, s66⟩
    obtain rfl := e66.symm
    have f66 : σ66.1 267 = σ.1 267 := funext fun x => s66.1 267 x (cR_f (by decide) (by decide))
    refine Ev_iast rfl (by first | rfl | assumption) (vp_in_nI (n := b) (show b < 6 by omega) (by decide)) ?_
    rw [nI_clamp (show b < 2 ^ 31 by omega)]
    have c53 : CF cX σ (sI σ66 287 (upd (σ66.1 287) b (nI (sBh B P S (wit B) h n b)))) := (cR_Xs s66).tr (CF.put _ _ rfl)
    refine Ev_aload rfl rfl rfl ?_
    refine Ev_dup rfl (fun _ q => nomatch q) ?_
    refine Ev_getI rfl (by first | rfl | assumption) ?_
    refine Ev_norm (by rw [sR_1 _ _ (by decide), f66]; exact g5 : _ = nI (sumf b (sBh B P S (wit B) h n))) ?_
    refine Ev_aload rfl rfl rfl ?_
    refine Ev_getR rfl (by first | rfl | assumption) (hρ _ _ _ rfl) ?_
    refine Ev_iload rfl rfl ?_
    refine Ev_iald rfl (by first | rfl | assumption) (vp_in_nI (n := b) (show b < 6 by omega) (by decide)) ?_
    refine Ev_norm (by rw [nI_clamp (by omega), sR_0, pk_us] : _ = nI (sBh B P S (wit B) h n b)) ?_
    refine Ev_iadd rfl ?_
    refine Ev_norm (nI_add _ _ : _ = nI (sumf (b + 1) (sBh B P S (wit B) h n))) ?_
    refine Ev_putI rfl (by first | rfl | assumption) ⟨rfl, rfl⟩ rfl ?_
    refine Ev_iincE rfl rfl (nI_1 b) ?_
    refine Ev_goto rfl ?_
    have c66 := c53.tr (CF.put (C := cX) (sI σ66 287 (upd (σ66.1 287) b (nI (sBh B P S (wit B) h n b)))) (k := 267) (j := 15) (nI (sumf (b + 1) (sBh B P S (wit B) h n))) rfl)
    refine ih (b + 1) _ (by omega) (hs.tr c66) (hR.cx c66) ?_ (fun b' hb' => ?_) ?_ ?_ ?_
    · refine ⟨?_, fun x hx => ?_⟩
      · rw [sR_1 _ _ (by decide), sR_1 _ _ (by decide), s66.1 268 _ (cR_f (by decide) (by decide))]; exact hp.1
      · rw [sR_1 _ _ (by decide), sR_1 _ _ (by decide), sR_1 _ _ (by decide), sR_1 _ _ (by decide), s66.1 276 _ (cR_f (by decide) (by decide)), s66.1 277 _ (cR_f (by decide) (by decide))]; exact hp.2 x hx
    · rw [sR_1 _ _ (by decide), sR_0]
      by_cases hq : b' = b
      · subst hq; rw [pk_us]
      · rw [pk_un hq, s66.1 287 _ (cR_f (by decide) (by decide))]; exact g2 b' (by omega)
    · rw [sR_0, pk_un (by decide), sR_1 _ _ (by decide), f66]; exact g3
    · rw [sR_0, pk_un (by decide), sR_1 _ _ (by decide), f66]; exact g4
    · rw [sR_0, pk_us]; rfl
theorem t_findChange (d : Nat) {σ : St} {h n : Nat} {S : Str} {P : Nat → Nat} (hR : CRd ρ σ q B) (hW : WfN B) (hWt : WfT B) (hWf : WfF B) (hP : WfP B P) (hc : CPl σ 32 B P) (hS : CStr σ S) (hSw : WfS B S) (hhr : σ.1 32 0 = nI h) (hh : h ≤ 999) (hn : 0 < n) (hn2 : n ≤ 30) :
    T l X (d + 9) 18 [.ref 267, .int (nI n)] 402 402 ρ σ (fun v ρ' σ' => v = none ∧ ρ' = ρ ∧ CF cX σ σ' ∧ ChS σ' B P S (wit B) h n (chO (fun j k => sTo B (xgP P j k) S (wit B) h n) (np B) (np B) 0 (-1, -1, sTo B P S (wit B) h n))) := by
  have hρ := hR.1
  have n6 := hW.2.1
  refine T_of rfl ?_
  refine Ev_aload rfl rfl rfl ?_
  refine Ev_getR rfl (by first | rfl | assumption) (hρ _ _ _ rfl) ?_
  refine Ev_aload rfl rfl rfl ?_
  refine Ev_getR rfl (by first | rfl | assumption) (hρ _ _ _ rfl) ?_
  refine Ev_callV rfl rfl rfl rfl rfl (same_n 402) (t_copyPlan _ (mom32 hρ) (mom268 hρ) (Or.inl (by decide)) hW hc) ?_
  rintro v8 ρ8 σ8 ⟨rfl, e8, p8, u8, k8, j8⟩
  obtain rfl := e8.symm
  have c8 : CF cX σ σ8 := ⟨fun k j hk => by
  by_cases z : k = 268 ∨ k = 276 ∨ k = 277
  · rcases z with rfl | rfl | rfl <;> exact absurd hk (by rw [cX_t (by decide) (by decide)]; decide)
  · rw [k8 k (by omega) (by omega) (by omega)], u8⟩
  refine Ev_aload rfl rfl rfl ?_
  refine Ev_const rfl ?_
  refine Ev_putI rfl (by first | rfl | assumption) ⟨rfl, rfl⟩ rfl ?_
  refine Ev_aload rfl rfl rfl ?_
  refine Ev_const rfl ?_
  refine Ev_putI rfl (by first | rfl | assumption) ⟨rfl, rfl⟩ rfl ?_
  refine Ev_aload rfl rfl rfl ?_
  refine Ev_const rfl ?_
  refine Ev_putI rfl (by first | rfl | assumption) ⟨rfl, rfl⟩ rfl ?_
  refine Ev_const rfl ?_
  refine Ev_istore rfl ?_
  have c3 := ((c8.tr (CF.put (C := cX) _ (k := 267) (j := 13) (-1) rfl)).tr (CF.put (C := cX) _ (k := 267) (j := 14) (-1) rfl)).tr (CF.put (C := cX) _ (k := 267) (j := 15) 0 rfl)
  refine cs_loop (d := d) (P := P) hW hWt hWf hP hSw hh hn hn2 σ hS hhr (fun σ1 c1 r1 H1 => ?_) (nb B) 0 _ (by omega) c3 (hR.cx c3) ⟨by rw [sR_1 _ _ (by decide), sR_1 _ _ (by decide), sR_1 _ _ (by decide)]; exact p8.1, fun x hx => by rw [sR_1 _ _ (by decide), sR_1 _ _ (by decide), sR_1 _ _ (by decide), sR_1 _ _ (by decide), sR_1 _ _ (by decide), sR_1 _ _ (by decide)]; exact p8.2 x hx⟩ (fun b' hb' => absurd hb' (Nat.not_lt_zero _)) rfl rfl rfl
  refine Ev_aload rfl rfl rfl ?_
  refine Ev_getI rfl (by first | rfl | assumption) ?_
  refine Ev_norm H1.2.2.2.2 ?_
  refine Ev_istore rfl ?_
  refine Ev_const rfl ?_
  refine Ev_istore rfl ?_
  exact cg_out (d := d) hW hWt hWf hP hSw hh hn hn2 σ hc hS hhr (fun σ2 c2 r2 H2 => ⟨rfl, rfl, c2, H2⟩) (np B) 0 σ1 _ _ (by omega) c1 r1 H1 (Nat.le_refl _) (sTo_le hW hP hSw) rfl
end S88b
