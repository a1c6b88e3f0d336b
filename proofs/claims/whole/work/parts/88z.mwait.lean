/-! A formula read by the reference: its codes, what waits. -/
/-- the reference's number for what waits -/
def ec (e : Nat) : Nat := bif Nat.ble 1020 e && Nat.ble e 1025 then e - 1000 else mc e
def okS (w : List Nat) : Prop := ∀ e, e ∈ w → e ∈ [34, 35, 36, 37, 38, 39, 1020, 1021, 1022, 1023, 1024]
def okT (w : List Nat) : Prop := ∀ e, e ∈ w → e ∈ [33, 43, 44, 1025]
/-- what waits, from below -/
def PlW (f : Nat → Int32) : List Nat → Prop
  | [] => True
  | e :: W => f W.length = nI (ec e) ∧ PlW f W
def isOpn (e : Nat) : Bool := Nat.beq e 33 || Nat.beq e 34 || Nat.beq e 35 || (Nat.ble 1020 e && Nat.ble e 1025)
def cntO : List Nat → Nat
  | [] => 0
  | e :: W => bif isOpn e then cntO W + 1 else cntO W
/-- its codes and its pile; how much is open -/
def MPc (σ : St) (out W : List Nat) : Prop := σ.1 326 100 = nI out.length ∧ (∀ j, j < out.length → σ.1 398 j = nI (mc (out.getD j 0))) ∧ σ.1 326 102 = nI W.length ∧ PlW (σ.1 399) W
def MPq (σ : St) (out W : List Nat) (o : Nat) : Prop := MPc σ out W ∧ σ.1 326 103 = nI o ∧ cntO W ≤ o ∧ o ≤ 6
def cQ (q : Nat) : Bool := Nat.beq q 398 || Nat.beq q 399
def fQ (j : Nat) : Bool := Nat.beq j 100 || Nat.beq j 102 || Nat.beq j 103 || Nat.beq j 104
def fQX (j : Nat) : Bool := fQ j || fTx j
def fCW (j : Nat) : Bool := Nat.beq j 100 || Nat.beq j 102
abbrev MW (σ σ' : St) : Prop := MF cQ fCW σ σ'
abbrev MZ (σ σ' : St) : Prop := MF cQ fQ σ σ'
abbrev MZX (σ σ' : St) : Prop := MF cQ fQX σ σ'
theorem MX.zx {σ σ' : St} (h : MX σ σ') : MZX σ σ' := h.wk (fun _ _ => rfl) (fun j hj => by unfold fQX at hj; exact (Bool.or_eq_false_iff.mp hj).2)
theorem MZ.zx {σ σ' : St} (h : MZ σ σ') : MZX σ σ' := h.wk (fun _ q => q) (fun j hj => by unfold fQX at hj; exact (Bool.or_eq_false_iff.mp hj).1)
theorem MTt.mz {σ σ' : St} {U : Tx} {s : Rdg} (H : MTt σ U s) (hs : MZ σ σ') : MTt σ' U s := by
  obtain ⟨h1, h2, h3⟩ := H
  refine ⟨by rw [hs.2.2 _ rfl]; exact h1, fun j hj => by rw [hs.1 327 (by decide) rfl]; exact h2 j hj, ?_⟩
  cases s with
  | inl e => unfold MRs at h3 ⊢; rw [hs.2.2 5 rfl, hs.2.2 6 rfl, hs.2.2 2 rfl]; exact h3
  | inr p => unfold MRs at h3 ⊢; rw [hs.2.2 5 rfl, hs.2.2 6 rfl, hs.2.2 2 rfl, hs.2.2 4 rfl]; exact h3
theorem MW.z {σ σ' : St} (h : MW σ σ') : MZ σ σ' := h.wk (fun _ q => q) (fun j hj => by unfold fQ at hj; exact (Bool.or_eq_false_iff.mp (Bool.or_eq_false_iff.mp hj).1).1)
theorem MPc.mx {σ σ' : St} {out W : List Nat} (H : MPc σ out W) (hs : MX σ σ') : MPc σ' out W := by
  obtain ⟨h1, h2, h3, h4⟩ := H
  exact ⟨by rw [hs.2.2 _ rfl]; exact h1, fun j hj => by rw [hs.1 398 (by decide) rfl]; exact h2 j hj, by rw [hs.2.2 _ rfl]; exact h3, by rw [hs.1 399 (by decide) rfl]; exact h4⟩
theorem MPq.mx {σ σ' : St} {out W : List Nat} {o : Nat} (H : MPq σ out W o) (hs : MX σ σ') : MPq σ' out W o := ⟨H.1.mx hs, by rw [hs.2.2 _ rfl]; exact H.2.1, H.2.2⟩
theorem Wds.zx {σ σ' : St} (H : Wds σ) (hs : MZX σ σ') : Wds σ' := H.eq (fun p hp => hs.1 p.1 (by have := (wdS_ok p hp).1; omega) ((show ∀ p, p ∈ wdS → cQ p.1 = false by decide) p hp))
theorem PlW.up {f : Nat → Int32} {W : List Nat} {n : Nat} {x : Int32} (h : PlW f W) (hn : W.length ≤ n) : PlW (upd f n x) W := by
  induction W with
  | nil => exact trivial
  | cons e W ih =>
    rw [List.length_cons] at hn
    exact ⟨by rw [pk_un (by omega)]; exact h.1, ih h.2 (by omega)⟩
theorem PlW.app {f : Nat → Int32} {u v : List Nat} (h : PlW f (u ++ v)) : PlW f v := by
  induction u with
  | nil => exact h
  | cons e u ih => exact ih h.2
theorem ec_S : ∀ e, e ∈ [34, 35, 36, 37, 38, 39, 1020, 1021, 1022, 1023, 1024] → ec e < 100 ∧ (decide (20 ≤ ec e ∧ ec e ≤ 24) = isBr e) ∧ (60 ≤ ec e ↔ (e = 34 ∨ e = 35)) ∧ (isBr e = false → ec e = mc e) ∧ (isBr e = true → ec e = e - 1000) ∧ (e = 34 ∨ e = 35 ∨ isBr e = true → isOpn e = true) ∧ (ec e = 3 ↔ e = 38) ∧ (ec e = 4 ↔ e = 39) ∧ (ec e = 1 ↔ e = 36) ∧ (ec e = 2 ↔ e = 37) := by decide
theorem ec_T : ∀ e, e ∈ [33, 43, 44, 1025] → ec e < 100 ∧ ¬ (20 ≤ ec e ∧ ec e ≤ 24) ∧ ec e < 60 ∧ (e ≠ 1025 → ec e = mc e) ∧ (ec e = 25 ↔ e = 1025) ∧ (ec e = 12 ↔ e = 33) ∧ (ec e = 10 ↔ e = 43) ∧ (ec e = 11 ↔ e = 44) ∧ ec e ≠ 1 ∧ ec e ≠ 2 ∧ ec e ≠ 3 ∧ ec e ≠ 4 := by decide
theorem pk_s1 (n : Nat) : nI (n + 1) - 1 = nI n := (pk_sub (a := n + 1) (b := 1) (by omega)).trans rfl
section S88z
variable {l : Launch} {X : Cx} {ρ : Rf} {U : Tx}
theorem out_at {f : Nat → Int32} {out : List Nat} {t : Nat} (h : ∀ j, j < out.length → f j = nI (mc (out.getD j 0))) : ∀ j, j < (out ++ [t]).length → upd f out.length (nI (mc t)) j = nI (mc ((out ++ [t]).getD j 0)) := by
  intro j hj
  rw [List.length_append] at hj
  have hj : j < out.length + 1 := hj
  rw [List.getD_eq_getElem?_getD]
  by_cases hq : j = out.length
  · subst hq; rw [pk_us, List.getElem?_append_right (Nat.le_refl _), Nat.sub_self]; rfl
  · rw [pk_un hq, List.getElem?_append_left (by omega), ← List.getD_eq_getElem?_getD]; exact h j (by omega)
theorem m_qCode (d : Nat) {σ : St} {out W : List Nat} {t : Nat} (hρ : RF ρ) (H : MPc σ out W) (hn : out.length < 1700) :
    T l X d 262 [.ref 326, .int (nI (mc t))] 402 402 ρ σ (fun v ρ' σ' => v = none ∧ ρ' = ρ ∧ MPc σ' (out ++ [t]) W ∧ MW σ σ') := by
  obtain ⟨h1, h2, h3, h4⟩ := H
  refine T_of rfl ?_
  refine Ev_aload rfl rfl rfl ?_
  refine Ev_getR rfl (by first | rfl | assumption) (hρ _ _ _ rfl) ?_
  refine Ev_aload rfl rfl rfl ?_
  refine Ev_getI rfl (by first | rfl | assumption) ?_
  refine Ev_norm h1 ?_
  refine Ev_iload rfl rfl ?_
  refine Ev_iast rfl (by first | rfl | assumption) (vp_in_nI (n := out.length) (show out.length < 1700 from hn) (by decide)) ?_
  refine Ev_aload rfl rfl rfl ?_
  refine Ev_dup rfl (fun _ q => nomatch q) ?_
  refine Ev_getI rfl (by first | rfl | assumption) ?_
  refine Ev_norm (by rw [sR_1 _ _ (by decide)]; exact h1 : _ = nI out.length) ?_
  refine Ev_const rfl ?_
  refine Ev_iadd rfl ?_
  refine Ev_norm (nI_1 out.length) ?_
  refine Ev_putI rfl (by first | rfl | assumption) ⟨rfl, rfl⟩ rfl ?_
  exact Ev_return rfl rfl rfl ⟨rfl, rfl, by
  rw [nI_clamp (by omega)]
  refine ⟨?_, ?_, ?_, ?_⟩
  · rw [sR_0, pk_us, List.length_append]; rfl
  · rw [sR_1 _ _ (by decide), sR_0]; exact out_at h2
  · rw [sR_0, pk_un (by decide), sR_1 _ _ (by decide)]; exact h3
  · rw [sR_1 _ _ (by decide), sR_1 _ _ (by decide)]; exact h4, by
  refine (MF.cell _ (by decide) rfl).tr (MF.put _ rfl)⟩
theorem m_qDrops (d : Nat) {σ : St} {out W : List Nat} {e : Nat} (hρ : RF ρ) (H : MPc σ out (e :: W)) (hn : out.length < 1700) (hw : W.length < 1700) (he : ec e = mc e) :
    T l X (d + 1) 265 [.ref 326] 402 402 ρ σ (fun v ρ' σ' => v = none ∧ ρ' = ρ ∧ MPc σ' (out ++ [e]) W ∧ MW σ σ') := by
  obtain ⟨h1, h2, h3, h4⟩ := H
  rw [List.length_cons] at h3
  have hs : MPc (sI σ 326 (upd (σ.1 326) 102 (nI W.length))) out W := by
    refine ⟨?_, ?_, ?_, ?_⟩
    · rw [sR_0, pk_un (by decide)]; exact h1
    · rw [sR_1 _ _ (by decide)]; exact h2
    · rw [sR_0, pk_us]
    · rw [sR_1 _ _ (by decide)]; exact h4.2
  refine T_of rfl ?_
  refine Ev_aload rfl rfl rfl ?_
  refine Ev_dup rfl (fun _ q => nomatch q) ?_
  refine Ev_getI rfl (by first | rfl | assumption) ?_
  refine Ev_norm h3 ?_
  refine Ev_const rfl ?_
  refine Ev_isub rfl ?_
  refine Ev_norm (pk_s1 W.length) ?_
  refine Ev_putI rfl (by first | rfl | assumption) ⟨rfl, rfl⟩ rfl ?_
  refine Ev_aload rfl rfl rfl ?_
  refine Ev_aload rfl rfl rfl ?_
  refine Ev_getR rfl (by first | rfl | assumption) (hρ _ _ _ rfl) ?_
  refine Ev_aload rfl rfl rfl ?_
  refine Ev_getI rfl (by first | rfl | assumption) ?_
  refine Ev_norm (by rw [sR_0, pk_us] : _ = nI W.length) ?_
  refine Ev_iald rfl (by first | rfl | assumption) (vp_in_nI (n := W.length) (show W.length < 1700 from hw) (by decide)) ?_
  refine Ev_norm (by rw [nI_clamp (by omega), sR_1 _ _ (by decide), h4.1, he] : _ = nI (mc e)) ?_
  refine Ev_callV rfl rfl rfl rfl rfl (same_n 402) (m_qCode _ hρ hs hn) ?_
  rintro v20 ρ20 σ20 ⟨rfl, e20, s20, c20⟩
  obtain rfl := e20.symm
  exact Ev_return rfl rfl rfl ⟨rfl, rfl, s20, MF.tr (MF.put _ rfl) c20⟩
theorem m_qIsOn (d : Nat) {σ : St} {out W : List Nat} {c : Nat} (hρ : RF ρ) (H : MPc σ out W) (hw : W.length < 1700) (hc : c < 100) (he : ∀ e, e ∈ W → ec e < 100) :
    T l X d 264 [.ref 326, .int (nI c)] 402 402 ρ σ (Rs (.int (bI (decide (W ≠ [] ∧ ec (W.headD 0) = c)))) ρ σ) := by
  obtain ⟨h1, h2, h3, hpl⟩ := H
  cases W with
  | nil =>
    refine T_of rfl ?_
    refine Ev_aload rfl rfl rfl ?_
    refine Ev_getI rfl (by first | rfl | assumption) ?_
    refine Ev_norm h3 ?_
    refine Ev_if_le rfl (fun h4 => ?_) (fun h4 => absurd (by decide) h4)
    refine Ev_const rfl ?_
    exact Ev_ireturn rfl rfl (narZ false) rfl ⟨by rw [decide_eq_false (fun z => z.1 rfl)]; rfl, rfl, rfl⟩
  | cons e W =>
    have h3 : σ.1 326 102 = nI (W.length + 1) := h3
    rw [List.length_cons] at hw
    have hee := he e List.mem_cons_self
    refine T_of rfl ?_
    refine Ev_aload rfl rfl rfl ?_
    refine Ev_getI rfl (by first | rfl | assumption) ?_
    refine Ev_norm h3 ?_
    refine Ev_if_le rfl (fun h4 => absurd h4 (by rw [Int32.le_iff_toInt_le, nI_toInt (by omega)]; have : (0 : Int32).toInt = 0 := rfl; omega)) (fun h4 => ?_)
    refine Ev_aload rfl rfl rfl ?_
    refine Ev_getR rfl (by first | rfl | assumption) (hρ _ _ _ rfl) ?_
    refine Ev_aload rfl rfl rfl ?_
    refine Ev_getI rfl (by first | rfl | assumption) ?_
    refine Ev_norm h3 ?_
    refine Ev_const rfl ?_
    refine Ev_isub rfl ?_
    refine Ev_norm (pk_s1 W.length) ?_
    refine Ev_iald rfl (by first | rfl | assumption) (vp_in_nI (n := W.length) (show W.length < 1700 by omega) (by decide)) ?_
    refine Ev_norm (by rw [nI_clamp (by omega)]; exact hpl.1 : _ = nI (ec e)) ?_
    refine Ev_iload rfl rfl ?_
    refine Ev_icmp_ne rfl (fun h19 => ?_) (fun h19 => ?_)
    · refine Ev_const rfl ?_
      exact Ev_ireturn rfl rfl (narZ false) rfl ⟨by rw [decide_eq_false (fun z => h19 (by rw [← z.2]; rfl))]; rfl, rfl, rfl⟩
    · refine Ev_const rfl ?_
      refine Ev_goto rfl ?_
      exact Ev_ireturn rfl rfl (narZ true) rfl ⟨by rw [decide_eq_true ⟨List.cons_ne_nil _ _, (nI_eq (a := ec e) (b := c) (by omega) (by omega)).mp (Decidable.not_not.mp h19)⟩]; rfl, rfl, rfl⟩
theorem m_qIsBracket (d : Nat) {σ : St} {n : Nat} (hn : n < 100) : T l X d 266 [.int (nI n)] 402 402 ρ σ (Rs (.int (bI (decide (20 ≤ n ∧ n ≤ 24)))) ρ σ) := by
  have e1 : (20 : Int32).toInt = 20 := rfl
  have e2 : (24 : Int32).toInt = 24 := rfl
  have e3 := nI_toInt (show n < 2 ^ 31 by omega)
  refine T_of rfl ?_
  refine Ev_iload rfl rfl ?_
  refine Ev_const rfl ?_
  refine Ev_icmp_lt rfl (fun h3 => ?_) (fun h3 => ?_)
  · refine Ev_const rfl ?_
    exact Ev_ireturn rfl rfl rfl rfl ⟨by rw [decide_eq_false (by rw [Int32.lt_iff_toInt_lt, e3] at h3; omega)]; rfl, rfl, rfl⟩
  · refine Ev_iload rfl rfl ?_
    refine Ev_const rfl ?_
    refine Ev_icmp_gt rfl (fun h9 => ?_) (fun h9 => ?_)
    · refine Ev_const rfl ?_
      exact Ev_ireturn rfl rfl rfl rfl ⟨by rw [decide_eq_false (by rw [Int32.lt_iff_toInt_lt, e3] at h9; omega)]; rfl, rfl, rfl⟩
    · refine Ev_const rfl ?_
      refine Ev_goto rfl ?_
      exact Ev_ireturn rfl rfl rfl rfl ⟨by rw [decide_eq_true (by rw [Int32.lt_iff_toInt_lt, e3] at h3 h9; omega)]; rfl, rfl, rfl⟩
end S88z
