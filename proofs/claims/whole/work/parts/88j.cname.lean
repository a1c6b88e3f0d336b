/-! A text read: the class's numbers, own words, names. -/
theorem nval_s {D : List Nat} {j : Nat} (h : j < D.length) : nval (D.take (j + 1)) = 10 * nval (D.take j) + (D.getD j 0 - 48) := by
  unfold nval
  rw [List.take_succ, List.foldl_append, List.getD_eq_getElem?_getD, List.getElem?_eq_getElem h]
  rfl
theorem nval_lt {D : List Nat} (hd : ∀ j, j < D.length → dgB (D.getD j 0) = true) : ∀ j, j ≤ D.length → nval (D.take j) < 10 ^ j := by
  intro j
  induction j with
  | zero => intro _; exact Nat.zero_lt_one
  | succ j ih =>
    intro h
    have h1 := ih (by omega)
    have h2 := dgB_r (hd j (by omega))
    rw [nval_s (by omega), Nat.pow_succ]
    omega
theorem dAt_of {U : Tx} {s : Rdg} {a tc c : Nat} (h1 : lkC U s = some c) (h2 : lkS U s = .inr (a, tc)) : dAt U s = dgs U a := by
  unfold dAt
  rw [h1, h2]
theorem dAt_no {U : Tx} {s : Rdg} (hT : TxW U) (h : dgI (lkV (lkC U s)) = false) : dAt U s = [] := by
  unfold dAt
  cases hc : lkC U s with
  | none => rfl
  | some c =>
    obtain ⟨a, tc, e1, e2, e3, _⟩ := lk_some hc
    rw [e1]
    rw [hc] at h
    have h : dgI (nI c) = false := h
    rw [dgI_n _ (by rw [← e3]; exact hT.2 a)] at h
    exact dgs_e (Or.inr (by rw [e3]; exact h))
theorem dAt_yes {U : Tx} {s : Rdg} (hT : TxW U) (h : dgI (lkV (lkC U s)) = true) : ∃ a tc, lkS U s = .inr (a, tc) ∧ a < U.1 ∧ dAt U s = dgs U a ∧ dgs U a ≠ [] := by
  cases hc : lkC U s with
  | none => rw [hc] at h; exact absurd h (by decide)
  | some c =>
    obtain ⟨a, tc, e1, e2, e3, _⟩ := lk_some hc
    rw [hc] at h
    have h : dgI (nI c) = true := h
    rw [dgI_n _ (by rw [← e3]; exact hT.2 a)] at h
    exact ⟨a, tc, e1, e2, dAt_of hc e1, by rw [dgs_s e2 (by rw [e3]; exact h)]; exact List.cons_ne_nil _ _⟩
theorem sb_low : ∀ v, v < 256 → v < 128 → sb v = nI v := by decide +kernel
theorem n5_app (l : List Nat) (c : Nat) : n5 (l ++ [c]) = n5 l + c * 32 ^ l.length := by
  induction l with
  | nil => show c + 32 * 0 = 0 + c * 1; omega
  | cons x l ih =>
    show x + 32 * n5 (l ++ [c]) = x + 32 * n5 l + c * 32 ^ (l.length + 1)
    rw [ih, Nat.pow_succ, Nat.mul_add, ← Nat.mul_assoc c, Nat.mul_comm (c * 32 ^ l.length) 32, Nat.add_assoc]
theorem n5_low {l : List Nat} (h : ∀ c, c ∈ l → c < 32) : n5 l < 32 ^ l.length := by
  induction l with
  | nil => exact Nat.zero_lt_one
  | cons x l ih =>
    have h1 := ih (fun c hc => h c (List.mem_cons_of_mem x hc))
    have h2 := h x List.mem_cons_self
    show x + 32 * n5 l < 32 ^ (l.length + 1)
    rw [Nat.pow_succ]
    omega
theorem shl_5 : ∀ j, j < 6 → ∀ c, c < 32 → nI c <<< (nI (5 * j) &&& 31) = nI (2 ^ (5 * j) * c) := by decide +kernel
def cTn (k j : Nat) : Bool := Nat.beq k 316 && !(Nat.beq j 1)
theorem cTn_f {k j : Nat} (h : k ≠ 316) : cTn k j = false := by unfold cTn; rw [nbeq h]; rfl
theorem cTt_n {k j : Nat} (h : cTn k j = false) : cTt k j = false := by
  unfold cTn at h
  unfold cTt
  cases hk : Nat.beq k 316
  · rfl
  · rw [hk] at h
    simp only [Bool.true_and, Bool.not_eq_false'] at h
    rw [h]; rfl
section S88j
variable {l : Launch} {X : Cx} {ρ : Rf} {U : Tx}
/-- a word taken, if it stands here -/
theorem t_takeW (d : Nat) {σ : St} {s : Rdg} {i : Nat} (hρ : RF ρ) (hT : TxW U) (hi : i < 33) (H : CTt σ U s) :
    T l X (d + 6) 98 [.ref 316, .int (nI (259 + i))] 402 402 ρ σ (fun v ρ' σ' => v = some (.int (bI (decide (wAt U s = wL.getD i [])))) ∧ ρ' = ρ ∧ CTt σ' U (tWd U (wL.getD i []) s) ∧ CF cTt σ σ') := by
  have hw := H.hw hT hi
  unfold tWd
  by_cases hq : wAt U s = wL.getD i []
  · rw [if_pos hq, decide_eq_true hq]
    have hh := hw.mpr hq
    refine T_of rfl ?_
    refine Ev_aload rfl rfl rfl ?_
    refine Ev_getI rfl (by first | rfl | assumption) ?_
    refine Ev_norm hh ?_
    refine Ev_iload rfl rfl ?_
    refine Ev_icmp_ne rfl (fun h5 => absurd rfl h5) (fun h5 => ?_)
    refine Ev_aload rfl rfl rfl ?_
    refine Ev_getI rfl (by first | rfl | assumption) ?_
    refine Ev_norm hh ?_
    refine Ev_const rfl ?_
    refine Ev_icmp_ne rfl (fun h13 => ?_) (fun h13 => absurd (Decidable.not_not.mp h13) (nI_m1 (by omega)))
    refine Ev_aload rfl rfl rfl ?_
    refine Ev_callV rfl rfl rfl rfl rfl (same_n 402) (t_nextW _ hρ hT H hq (wL_ne i hi).1) ?_
    rintro v19 ρ19 σ19 ⟨rfl, e19, s19, c19⟩
    obtain rfl := e19.symm
    refine Ev_const rfl ?_
    exact Ev_ireturn rfl rfl rfl rfl ⟨rfl, rfl, s19.t, c19⟩
  · rw [if_neg hq, decide_eq_false hq]
    refine T_of rfl ?_
    refine Ev_aload rfl rfl rfl ?_
    refine Ev_getI rfl (by first | rfl | assumption) ?_
    refine Ev_iload rfl rfl ?_
    refine Ev_icmp_ne rfl (fun h5 => ?_) (fun h5 => absurd (hw.mp (Decidable.not_not.mp h5)) hq)
    refine Ev_const rfl ?_
    exact Ev_ireturn rfl rfl rfl rfl ⟨rfl, rfl, H.lk, CF.rf _ _⟩
/-- a sign taken, if it stands here -/
theorem t_takeS (d : Nat) {σ : St} {s : Rdg} {c : Nat} (hρ : RF ρ) (hT : TxW U) (hc : c < 256 ∧ ltB c = false ∧ dgB c = false) (H : CTt σ U s) :
    T l X (d + 6) 98 [.ref 316, .int (nI c)] 402 402 ρ σ (fun v ρ' σ' => v = some (.int (bI (decide (lkC U s = some c)))) ∧ ρ' = ρ ∧ CTt σ' U (tSg U c s) ∧ CF cTt σ σ') := by
  have hw := H.hs hT hc
  unfold tSg
  by_cases hq : lkC U s = some c
  · rw [if_pos hq, decide_eq_true hq]
    have hh := hw.mpr hq
    refine T_of rfl ?_
    refine Ev_aload rfl rfl rfl ?_
    refine Ev_getI rfl (by first | rfl | assumption) ?_
    refine Ev_norm hh ?_
    refine Ev_iload rfl rfl ?_
    refine Ev_icmp_ne rfl (fun h5 => absurd rfl h5) (fun h5 => ?_)
    refine Ev_aload rfl rfl rfl ?_
    refine Ev_getI rfl (by first | rfl | assumption) ?_
    refine Ev_norm hh ?_
    refine Ev_const rfl ?_
    refine Ev_icmp_ne rfl (fun h13 => ?_) (fun h13 => absurd (Decidable.not_not.mp h13) (nI_m1 (by omega)))
    refine Ev_aload rfl rfl rfl ?_
    refine Ev_callV rfl rfl rfl rfl rfl (same_n 402) (t_nextS _ hρ hT H hq hc.2) ?_
    rintro v19 ρ19 σ19 ⟨rfl, e19, s19, c19⟩
    obtain rfl := e19.symm
    refine Ev_const rfl ?_
    exact Ev_ireturn rfl rfl rfl rfl ⟨rfl, rfl, s19.t, c19⟩
  · rw [if_neg hq, decide_eq_false hq]
    refine T_of rfl ?_
    refine Ev_aload rfl rfl rfl ?_
    refine Ev_getI rfl (by first | rfl | assumption) ?_
    refine Ev_iload rfl rfl ?_
    refine Ev_icmp_ne rfl (fun h5 => ?_) (fun h5 => absurd (hw.mp (Decidable.not_not.mp h5)) hq)
    refine Ev_const rfl ?_
    exact Ev_ireturn rfl rfl rfl rfl ⟨rfl, rfl, H.lk, CF.rf _ _⟩
theorem t_expW (d : Nat) {σ : St} {s : Rdg} {i : Nat} (hρ : RF ρ) (hT : TxW U) (hi : i < 33) (H : CTt σ U s) :
    T l X (d + 7) 99 [.ref 316, .int (nI (259 + i))] 402 402 ρ σ (fun v ρ' σ' => v = none ∧ ρ' = ρ ∧ CTe σ' U (aWd U (wL.getD i []) s) ∧ CF cTt σ σ') := by
  have hw := H.hw hT hi
  unfold aWd
  by_cases hq : wAt U s = wL.getD i []
  · rw [if_pos hq]
    have hh := hw.mpr hq
    have htk : T l X (d + 6) 98 [.ref 316, .int (nI (259 + i))] 402 402 ρ σ (fun v ρ' σ' => v = some (.int 1) ∧ ρ' = ρ ∧ CTe σ' U (adv (wL.getD i []).length 1 (lkS U s)) ∧ CF cTt σ σ') := by
      refine T_of rfl ?_
      refine Ev_aload rfl rfl rfl ?_
      refine Ev_getI rfl (by first | rfl | assumption) ?_
      refine Ev_norm hh ?_
      refine Ev_iload rfl rfl ?_
      refine Ev_icmp_ne rfl (fun h5 => absurd rfl h5) (fun h5 => ?_)
      refine Ev_aload rfl rfl rfl ?_
      refine Ev_getI rfl (by first | rfl | assumption) ?_
      refine Ev_norm hh ?_
      refine Ev_const rfl ?_
      refine Ev_icmp_ne rfl (fun h13 => ?_) (fun h13 => absurd (Decidable.not_not.mp h13) (nI_m1 (by omega)))
      refine Ev_aload rfl rfl rfl ?_
      refine Ev_callV rfl rfl rfl rfl rfl (same_n 402) (t_nextW _ hρ hT H hq (wL_ne i hi).1) ?_
      rintro v19 ρ19 σ19 ⟨rfl, e19, s19, c19⟩
      obtain rfl := e19.symm
      refine Ev_const rfl ?_
      exact Ev_ireturn rfl rfl rfl rfl ⟨rfl, rfl, s19, c19⟩
    refine T_of rfl ?_
    refine Ev_aload rfl rfl rfl ?_
    refine Ev_iload rfl rfl ?_
    refine Ev_callV rfl rfl rfl rfl rfl (same_n 402) htk ?_
    rintro v2 ρ2 σ2 ⟨rfl, e2, s2, c2⟩
    obtain rfl := e2.symm
    refine Ev_if_ne rfl (fun h5 => ?_) (fun h5 => absurd (show ¬ (1 : Int32) = 0 by decide) h5)
    exact Ev_return rfl rfl rfl ⟨rfl, rfl, s2, c2⟩
  · rw [if_neg hq]
    have htk : T l X (d + 6) 98 [.ref 316, .int (nI (259 + i))] 402 402 ρ σ (fun v ρ' σ' => v = some (.int 0) ∧ ρ' = ρ ∧ σ' = σ) := by
      refine T_of rfl ?_
      refine Ev_aload rfl rfl rfl ?_
      refine Ev_getI rfl (by first | rfl | assumption) ?_
      refine Ev_iload rfl rfl ?_
      refine Ev_icmp_ne rfl (fun h5 => ?_) (fun h5 => absurd (hw.mp (Decidable.not_not.mp h5)) hq)
      refine Ev_const rfl ?_
      exact Ev_ireturn rfl rfl rfl rfl ⟨rfl, rfl, rfl⟩
    refine T_of rfl ?_
    refine Ev_aload rfl rfl rfl ?_
    refine Ev_iload rfl rfl ?_
    refine Ev_callV rfl rfl rfl rfl rfl (same_n 402) htk ?_
    rintro v2 ρ2 σ2 ⟨rfl, e2, g2⟩
    obtain rfl := e2.symm
    obtain rfl := g2.symm
    refine Ev_if_ne rfl (fun h5 => absurd rfl h5) (fun h5 => ?_)
    refine Ev_aload rfl rfl rfl ?_
    refine Ev_const rfl ?_
    refine Ev_aload rfl rfl rfl ?_
    refine Ev_getI rfl (by first | rfl | assumption) ?_
    refine Ev_callV rfl rfl rfl rfl rfl (same_n 402) (t_failH _ hT H) ?_
    rintro v14 ρ14 σ14 ⟨rfl, e14, s14, c14⟩
    obtain rfl := e14.symm
    exact Ev_return rfl rfl rfl ⟨rfl, rfl, s14, c14⟩
theorem t_expS (d : Nat) {σ : St} {s : Rdg} {c : Nat} (hρ : RF ρ) (hT : TxW U) (hc : c < 256 ∧ ltB c = false ∧ dgB c = false) (H : CTt σ U s) :
    T l X (d + 7) 99 [.ref 316, .int (nI c)] 402 402 ρ σ (fun v ρ' σ' => v = none ∧ ρ' = ρ ∧ CTe σ' U (aSg U c s) ∧ CF cTt σ σ') := by
  have hw := H.hs hT hc
  unfold aSg
  by_cases hq : lkC U s = some c
  · rw [if_pos hq]
    have hh := hw.mpr hq
    have htk : T l X (d + 6) 98 [.ref 316, .int (nI c)] 402 402 ρ σ (fun v ρ' σ' => v = some (.int 1) ∧ ρ' = ρ ∧ CTe σ' U (adv 1 0 (lkS U s)) ∧ CF cTt σ σ') := by
      refine T_of rfl ?_
      refine Ev_aload rfl rfl rfl ?_
      refine Ev_getI rfl (by first | rfl | assumption) ?_
      refine Ev_norm hh ?_
      refine Ev_iload rfl rfl ?_
      refine Ev_icmp_ne rfl (fun h5 => absurd rfl h5) (fun h5 => ?_)
      refine Ev_aload rfl rfl rfl ?_
      refine Ev_getI rfl (by first | rfl | assumption) ?_
      refine Ev_norm hh ?_
      refine Ev_const rfl ?_
      refine Ev_icmp_ne rfl (fun h13 => ?_) (fun h13 => absurd (Decidable.not_not.mp h13) (nI_m1 (by omega)))
      refine Ev_aload rfl rfl rfl ?_
      refine Ev_callV rfl rfl rfl rfl rfl (same_n 402) (t_nextS _ hρ hT H hq hc.2) ?_
      rintro v19 ρ19 σ19 ⟨rfl, e19, s19, c19⟩
      obtain rfl := e19.symm
      refine Ev_const rfl ?_
      exact Ev_ireturn rfl rfl rfl rfl ⟨rfl, rfl, s19, c19⟩
    refine T_of rfl ?_
    refine Ev_aload rfl rfl rfl ?_
    refine Ev_iload rfl rfl ?_
    refine Ev_callV rfl rfl rfl rfl rfl (same_n 402) htk ?_
    rintro v2 ρ2 σ2 ⟨rfl, e2, s2, c2⟩
    obtain rfl := e2.symm
    refine Ev_if_ne rfl (fun h5 => ?_) (fun h5 => absurd (show ¬ (1 : Int32) = 0 by decide) h5)
    exact Ev_return rfl rfl rfl ⟨rfl, rfl, s2, c2⟩
  · rw [if_neg hq]
    have htk : T l X (d + 6) 98 [.ref 316, .int (nI c)] 402 402 ρ σ (fun v ρ' σ' => v = some (.int 0) ∧ ρ' = ρ ∧ σ' = σ) := by
      refine T_of rfl ?_
      refine Ev_aload rfl rfl rfl ?_
      refine Ev_getI rfl (by first | rfl | assumption) ?_
      refine Ev_iload rfl rfl ?_
      refine Ev_icmp_ne rfl (fun h5 => ?_) (fun h5 => absurd (hw.mp (Decidable.not_not.mp h5)) hq)
      refine Ev_const rfl ?_
      exact Ev_ireturn rfl rfl rfl rfl ⟨rfl, rfl, rfl⟩
    refine T_of rfl ?_
    refine Ev_aload rfl rfl rfl ?_
    refine Ev_iload rfl rfl ?_
    refine Ev_callV rfl rfl rfl rfl rfl (same_n 402) htk ?_
    rintro v2 ρ2 σ2 ⟨rfl, e2, g2⟩
    obtain rfl := e2.symm
    obtain rfl := g2.symm
    refine Ev_if_ne rfl (fun h5 => absurd rfl h5) (fun h5 => ?_)
    refine Ev_aload rfl rfl rfl ?_
    refine Ev_const rfl ?_
    refine Ev_aload rfl rfl rfl ?_
    refine Ev_getI rfl (by first | rfl | assumption) ?_
    refine Ev_callV rfl rfl rfl rfl rfl (same_n 402) (t_failH _ hT H) ?_
    rintro v14 ρ14 σ14 ⟨rfl, e14, s14, c14⟩
    obtain rfl := e14.symm
    exact Ev_return rfl rfl rfl ⟨rfl, rfl, s14, c14⟩
theorem t_askNumber (d : Nat) {σ : St} {s : Rdg} {most : Nat} (hρ : RF ρ) (hT : TxW U) (hm : most < 2 ^ 31) (H : CTt σ U s) :
    T l X (d + 6) 100 [.ref 316, .int (nI most)] 402 402 ρ σ (fun v ρ' σ' => v = some (.int (nI (vNu U most s))) ∧ ρ' = ρ ∧ CTe σ' U (aNu U most s) ∧ CF cTt σ σ') := by
  have u16 := hT.1
  have hh := H.hd hT
  cases hc : dgI (lkV (lkC U s)) with
  | false =>
    have hd := dAt_no hT hc
    have hv : vNu U most s = 0 := by
      unfold vNu aNu
      rw [if_pos hd]
      cases lkS U s <;> rfl
    rw [hv]
    unfold aNu
    rw [if_pos hd]
    refine T_of rfl ?_
    refine Ev_aload rfl rfl rfl ?_
    refine Ev_getI rfl (by first | rfl | assumption) ?_
    refine Ev_const rfl ?_
    refine Ev_icmp_eq rfl (fun h7 => absurd (hh.mp h7) (by rw [hc]; decide)) (fun h7 => ?_)
    refine Ev_aload rfl rfl rfl ?_
    refine Ev_const rfl ?_
    refine Ev_aload rfl rfl rfl ?_
    refine Ev_getI rfl (by first | rfl | assumption) ?_
    refine Ev_callV rfl rfl rfl rfl rfl (same_n 402) (t_failH _ hT H) ?_
    rintro v16 ρ16 σ16 ⟨rfl, e16, s16, c16⟩
    obtain rfl := e16.symm
    refine Ev_const rfl ?_
    exact Ev_ireturn rfl rfl rfl rfl ⟨rfl, rfl, s16, c16⟩
  | true =>
    obtain ⟨a, tc, e1, e2, e3, e4⟩ := dAt_yes hT hc
    have hhe := hh.mpr hc
    have He := H.ex hT e1
    have hsk : skp U a = a := by
      have := (lkS_id U s).1
      rw [e1] at this
      obtain ⟨r1, r2, r3⟩ := lk_r (U := U) (a, tc)
      by_cases hl : U.1 ≤ skp U a
      · rw [(r1 hl).1] at this; exact (congrArg Prod.fst (Sum.inr.inj this))
      · cases hz : cfl U (skp U a) (tcN U a tc) with
        | true => rw [(r2 (by show skp U a < U.1; omega) hz).1] at this; cases this
        | false => rw [(r3 (by show skp U a < U.1; omega) hz).1] at this; exact (congrArg Prod.fst (Sum.inr.inj this))
    have hd0 : dgB (U.2 a) = true := by
      cases hz : dgB (U.2 a) with
      | true => rfl
      | false => exact absurd (dgs_e (Or.inr hz)) e4
    have hl0 : ltB (U.2 a) = false := by
      cases hz : ltB (U.2 a) with
      | false => rfl
      | true => have := lt_dg _ (hT.2 a) hz; rw [hd0] at this; cases this
    have k1 : tkl U a = (dgs U a).length := by unfold tkl; rw [hl0, hd0]; rfl
    have k2 : tkt U a = 2 := by unfold tkt; rw [hl0, hd0]; rfl
    obtain ⟨f1, f2, f3⟩ := dgs_end (T := U) _ a rfl
    have f1 := f1 (by omega)
    have hlt := nval_lt (fun j hj => by rw [(f3 j hj).1]; exact (f3 j hj).2)
    have hfr : σ.1 316 3 = nI a := by have := He.2.2.2.2.1; rw [show skp U (a, tc).1 = a from hsk] at this; exact this
    have hto : σ.1 316 4 = nI (a + (dgs U a).length) := by
      have := He.2.2.2.2.2.2 (by show skp U a < U.1; rw [hsk]; exact e2)
      rw [show skp U (a, tc).1 = a from hsk, k1] at this; exact this
    have hby := He.1
    generalize hD : dgs U a = D at *
    have hne : dAt U s ≠ [] := by rw [e3]; exact e4
    by_cases h4 : 4 < D.length
    · have ea : aNu U most s = .inl (1, a + 4) := by unfold aNu; rw [if_neg hne, e3, if_pos h4, e1]; rfl
      have ev : vNu U most s = 0 := by unfold vNu; rw [ea]; rfl
      rw [ea, ev]
      refine T_of rfl ?_
      refine Ev_aload rfl rfl rfl ?_
      refine Ev_getI rfl (by first | rfl | assumption) ?_
      refine Ev_const rfl ?_
      refine Ev_icmp_eq rfl (fun h7 => ?_) (fun h7 => absurd hhe h7)
      refine Ev_aload rfl rfl rfl ?_
      refine Ev_getI rfl (by first | rfl | assumption) ?_
      refine Ev_norm hto ?_
      refine Ev_aload rfl rfl rfl ?_
      refine Ev_getI rfl (by first | rfl | assumption) ?_
      refine Ev_norm hfr ?_
      refine Ev_isub rfl ?_
      refine Ev_norm (show _ = nI D.length by rw [pk_sub (by omega), Nat.add_sub_cancel_left]) ?_
      refine Ev_const rfl ?_
      refine Ev_icmp_le rfl (fun h31 => absurd h31 (fun z => absurd ((nI_leI (b := 4) (by omega) (by decide)).mp z) (by omega))) (fun h31 => ?_)
      refine Ev_aload rfl rfl rfl ?_
      refine Ev_const rfl ?_
      refine Ev_aload rfl rfl rfl ?_
      refine Ev_getI rfl (by first | rfl | assumption) ?_
      refine Ev_norm hfr ?_
      refine Ev_const rfl ?_
      refine Ev_iadd rfl ?_
      refine Ev_norm (nI_add a 4) ?_
      refine Ev_callV rfl rfl rfl rfl rfl (same_n 402) (t_fail _ (w := 1) (k := a + 4) He (by decide) (fun _ _ => rfl)) ?_
      rintro v42 ρ42 σ42 ⟨rfl, e42, s42, c42⟩
      obtain rfl := e42.symm
      refine Ev_const rfl ?_
      exact Ev_ireturn rfl rfl rfl rfl ⟨rfl, rfl, s42, c42⟩
    · have hv := hlt D.length (Nat.le_refl _)
      rw [List.take_of_length_le (Nat.le_refl _)] at hv
      have h10 : (10 : Nat) ^ D.length ≤ 10 ^ 4 := Nat.pow_le_pow_right (by decide) (by omega)
      have fin : Ev l X (d + 6) 100 83 [.ref 316, .int (nI most), .int (nI (nval D)), .int (nI (a + D.length))] [] 402 402 402 ρ σ (fun v ρ' σ' => v = some (.int (nI (vNu U most s))) ∧ ρ' = ρ ∧ CTe σ' U (aNu U most s) ∧ CF cTt σ σ') := by
        by_cases hgt : most < nval D
        · have ea : aNu U most s = .inl (2, a) := by unfold aNu; rw [if_neg hne, e3, if_neg h4, if_pos hgt, e1]; rfl
          have ev : vNu U most s = 0 := by unfold vNu; rw [ea]; rfl
          rw [ea, ev]
          refine Ev_iload rfl rfl ?_
          refine Ev_iload rfl rfl ?_
          refine Ev_icmp_le rfl (fun h85 => absurd ((nI_leI (by omega) (by omega)).mp h85) (by omega)) (fun h85 => ?_)
          refine Ev_aload rfl rfl rfl ?_
          refine Ev_const rfl ?_
          refine Ev_aload rfl rfl rfl ?_
          refine Ev_getI rfl (by first | rfl | assumption) ?_
          refine Ev_norm hfr ?_
          refine Ev_callV rfl rfl rfl rfl rfl (same_n 402) (t_fail _ (w := 2) (k := a) He (by decide) (fun _ _ => rfl)) ?_
          rintro v94 ρ94 σ94 ⟨rfl, e94, s94, c94⟩
          obtain rfl := e94.symm
          refine Ev_const rfl ?_
          exact Ev_ireturn rfl rfl rfl rfl ⟨rfl, rfl, s94, c94⟩
        · have ea : aNu U most s = .inr (a + D.length, 2) := by unfold aNu; rw [if_neg hne, e3, if_neg h4, if_neg hgt, e1]; rfl
          have ev : vNu U most s = nval D := by unfold vNu; rw [ea, e3]; rfl
          have hn := t_nextH (l := l) (X := X) d hρ hT He (by show skp U a < U.1; rw [hsk]; exact e2)
          rw [show skp U (a, tc).1 = a from hsk, k1, k2] at hn
          rw [ea, ev]
          refine Ev_iload rfl rfl ?_
          refine Ev_iload rfl rfl ?_
          refine Ev_icmp_le rfl (fun h85 => ?_) (fun h85 => absurd (nI_le (by omega) (by omega)) h85)
          refine Ev_aload rfl rfl rfl ?_
          refine Ev_callV rfl rfl rfl rfl rfl (same_n 402) hn ?_
          rintro v100 ρ100 σ100 ⟨rfl, e100, s100, c100⟩
          obtain rfl := e100.symm
          refine Ev_iload rfl rfl ?_
          exact Ev_ireturn rfl rfl rfl rfl ⟨rfl, rfl, s100, c100⟩
      have loop : ∀ (m j : Nat), j + m = D.length → Ev l X (d + 6) 100 54 [.ref 316, .int (nI most), .int (nI (nval (D.take j))), .int (nI (a + j))] [] 402 402 402 ρ σ (fun v ρ' σ' => v = some (.int (nI (vNu U most s))) ∧ ρ' = ρ ∧ CTe σ' U (aNu U most s) ∧ CF cTt σ σ') := by
        intro m
        induction m with
        | zero =>
          intro j hj
          have hj : j = D.length := by omega
          subst hj
          rw [List.take_of_length_le (Nat.le_refl _)]
          refine Ev_iload rfl rfl ?_
          refine Ev_aload rfl rfl rfl ?_
          refine Ev_getI rfl (by first | rfl | assumption) ?_
          refine Ev_norm hto ?_
          refine Ev_icmp_ge rfl (fun h59 => ?_) (fun h59 => absurd (nI_le (Nat.le_refl _) (by omega)) h59)
          exact fin
        | succ m ih =>
          intro j hj
          have hjlt : j < D.length := by omega
          have h256 := hT.2 (a + j)
          have hdg := (f3 j hjlt).2
          have hr := dgB_r hdg
          have hv2 := hlt j (by omega)
          have h102 : (10 : Nat) ^ j ≤ 10 ^ 4 := Nat.pow_le_pow_right (by decide) (by omega)
          refine Ev_iload rfl rfl ?_
          refine Ev_aload rfl rfl rfl ?_
          refine Ev_getI rfl (by first | rfl | assumption) ?_
          refine Ev_norm hto ?_
          refine Ev_icmp_ge rfl (fun h59 => absurd h59 (nI_ge (by omega) (by omega))) (fun h59 => ?_)
          refine Ev_const rfl ?_
          refine Ev_iload rfl rfl ?_
          refine Ev_imul rfl ?_
          refine Ev_norm (pk_mul 10 (nval (D.take j))) ?_
          refine Ev_aload rfl rfl rfl ?_
          refine Ev_getR rfl (by first | rfl | assumption) (hρ _ _ _ rfl) ?_
          refine Ev_iload rfl rfl ?_
          refine Ev_bald rfl (by first | rfl | assumption) (vp_in_nI (n := a + j) (show a + j < 1600 by omega) (by decide)) ?_
          refine Ev_norm (by rw [nI_clamp (by omega), hby.2 _ (by omega)]; exact sb_low _ h256 (by omega) : _ = nI (U.2 (a + j))) ?_
          refine Ev_iadd rfl ?_
          refine Ev_norm (nI_add (10 * nval (D.take j)) (U.2 (a + j))) ?_
          refine Ev_const rfl ?_
          refine Ev_isub rfl ?_
          refine Ev_norm (show _ = nI (nval (D.take (j + 1))) by
          rw [nval_s hjlt, (f3 j hjlt).1]
          refine (pk_sub (b := 48) (by omega)).trans ?_
          congr 1
          omega) ?_
          refine Ev_istore rfl ?_
          refine Ev_iincE rfl rfl (nI_1 (a + j) : _ = nI (a + (j + 1))) ?_
          refine Ev_goto rfl ?_
          exact ih (j + 1) (by omega)
      refine T_of rfl ?_
      refine Ev_aload rfl rfl rfl ?_
      refine Ev_getI rfl (by first | rfl | assumption) ?_
      refine Ev_const rfl ?_
      refine Ev_icmp_eq rfl (fun h7 => ?_) (fun h7 => absurd hhe h7)
      refine Ev_aload rfl rfl rfl ?_
      refine Ev_getI rfl (by first | rfl | assumption) ?_
      refine Ev_norm hto ?_
      refine Ev_aload rfl rfl rfl ?_
      refine Ev_getI rfl (by first | rfl | assumption) ?_
      refine Ev_norm hfr ?_
      refine Ev_isub rfl ?_
      refine Ev_norm (show _ = nI D.length by rw [pk_sub (by omega), Nat.add_sub_cancel_left]) ?_
      refine Ev_const rfl ?_
      refine Ev_icmp_le rfl (fun h31 => ?_) (fun h31 => absurd (nI_le (b := 4) (by omega) (by decide)) h31)
      refine Ev_const rfl ?_
      refine Ev_istore rfl ?_
      refine Ev_aload rfl rfl rfl ?_
      refine Ev_getI rfl (by first | rfl | assumption) ?_
      refine Ev_norm hfr ?_
      refine Ev_istore rfl ?_
      exact loop D.length 0 (Nat.zero_add _)
theorem t_askName (d : Nat) {σ : St} {s : Rdg} (hρ : RF ρ) (hT : TxW U) (H : CTt σ U s) :
    T l X (d + 6) 101 [.ref 316] 402 402 ρ σ (fun v ρ' σ' => v = some (.int (nI (n5 (vNm U s)))) ∧ ρ' = ρ ∧ CTe σ' U (aNm U s) ∧ (isOk (aNm U s) = true → σ'.1 316 5 = nI (rpos (lkS U s))) ∧ CF cTn σ σ') := by
  have u16 := hT.1
  have tn : ∀ {σ σ' : St}, CF cTt σ σ' → CF cTn σ σ' := fun h => h.wk (fun _ _ q => cTt_n q)
  have hh := H.hn hT
  by_cases hno : wAt U s = [] ∨ wAt U s ∈ ownW
  · have hv : vNm U s = [] := by
      unfold vNm aNm
      rw [if_pos hno]
      cases lkS U s <;> rfl
    have hnn : ¬ (σ.1 316 2 = 258 ∨ 286 ≤ σ.1 316 2) := fun z => (hh.mp z) hno
    rw [hv]
    unfold aNm
    rw [if_pos hno]
    refine T_of rfl ?_
    refine Ev_aload rfl rfl rfl ?_
    refine Ev_getI rfl (by first | rfl | assumption) ?_
    refine Ev_const rfl ?_
    refine Ev_icmp_eq rfl (fun h7 => absurd (Or.inl h7) hnn) (fun h7 => ?_)
    refine Ev_aload rfl rfl rfl ?_
    refine Ev_getI rfl (by first | rfl | assumption) ?_
    refine Ev_const rfl ?_
    refine Ev_icmp_ge rfl (fun h17 => absurd (Or.inr h17) hnn) (fun h17 => ?_)
    refine Ev_aload rfl rfl rfl ?_
    refine Ev_const rfl ?_
    refine Ev_aload rfl rfl rfl ?_
    refine Ev_getI rfl (by first | rfl | assumption) ?_
    refine Ev_callV rfl rfl rfl rfl rfl (same_n 402) (t_failH _ hT H) ?_
    rintro v26 ρ26 σ26 ⟨rfl, e26, s26, c26⟩
    obtain rfl := e26.symm
    refine Ev_const rfl ?_
    exact Ev_ireturn rfl rfl rfl rfl ⟨rfl, rfl, s26, fun z => by cases hq : lkS U s <;> (rw [hq] at z; cases z), tn c26⟩
  · have hyes := hh.mpr hno
    have hlc : ltI (lkV (lkC U s)) = true := by
      cases hz : ltI (lkV (lkC U s)) with
      | true => rfl
      | false => exact absurd (Or.inl (wAt_no hT hz)) hno
    obtain ⟨a, tc, e1, e2, e3, e4⟩ := wAt_yes hT hlc
    have He := H.ex hT e1
    have hsk : skp U a = a := by
      cases hcc : lkC U s with
      | none => rw [hcc] at hlc; exact absurd hlc (by decide)
      | some c =>
        obtain ⟨a', tc', q1, q2, q3, q4, -⟩ := lk_some hcc
        rw [e1] at q1
        have := Sum.inr.inj q1
        rw [show a = a' from congrArg Prod.fst this]; exact q4
    have hl0 : ltB (U.2 a) = true := (wrd_ne.mp e4).2
    have k1 : tkl U a = (wrd U a).length := by unfold tkl; rw [hl0]; rfl
    have k2 : tkt U a = 1 := by unfold tkt; rw [hl0]; rfl
    obtain ⟨f1, f2, f3⟩ := wrd_end (T := U) _ a rfl
    have f1 := f1 (by omega)
    have hfr : σ.1 316 3 = nI a := by have := He.2.2.2.2.1; rw [show skp U (a, tc).1 = a from hsk] at this; exact this
    have hto : σ.1 316 4 = nI (a + (wrd U a).length) := by
      have := He.2.2.2.2.2.2 (by show skp U a < U.1; rw [hsk]; exact e2)
      rw [show skp U (a, tc).1 = a from hsk, k1] at this; exact this
    have hby := He.1
    generalize hW : wrd U a = W at *
    have hl32 : ∀ j, j ≤ W.length → ∀ c, c ∈ (W.take j).map (fun c => c - 96) → c < 32 := by
      intro j hj c hc
      obtain ⟨x, hx, rfl⟩ := List.mem_map.mp hc
      obtain ⟨i, hi, rfl⟩ := List.getElem_of_mem (List.mem_of_mem_take hx)
      have := f3 i hi
      rw [List.getD_eq_getElem?_getD, List.getElem?_eq_getElem hi] at this
      have h1 := this.1
      have h2 := ltB_r this.2
      rw [← h1] at h2
      have h2 : 97 ≤ W[i] ∧ W[i] < 123 := h2
      omega
    have hlen : ∀ j, j ≤ W.length → ((W.take j).map (fun c => c - 96)).length = j := fun j hj => by rw [List.length_map, List.length_take]; omega
    by_cases h6 : 6 < W.length
    · have ea : aNm U s = .inl (1, a + 6) := by unfold aNm; rw [if_neg hno, e3, if_pos h6, e1]; rfl
      have ev : vNm U s = [] := by unfold vNm; rw [ea]; rfl
      have long : Ev l X (d + 6) 101 31 [.ref 316, .float 0, .float 0] [] 402 402 402 ρ σ (fun v ρ' σ' => v = some (.int (nI (n5 (vNm U s)))) ∧ ρ' = ρ ∧ CTe σ' U (aNm U s) ∧ (isOk (aNm U s) = true → σ'.1 316 5 = nI (rpos (lkS U s))) ∧ CF cTn σ σ') := by
        rw [ea, ev]
        refine Ev_aload rfl rfl rfl ?_
        refine Ev_getI rfl (by first | rfl | assumption) ?_
        refine Ev_norm hto ?_
        refine Ev_aload rfl rfl rfl ?_
        refine Ev_getI rfl (by first | rfl | assumption) ?_
        refine Ev_norm hfr ?_
        refine Ev_isub rfl ?_
        refine Ev_norm (show _ = nI W.length by rw [pk_sub (by omega), Nat.add_sub_cancel_left]) ?_
        refine Ev_const rfl ?_
        refine Ev_icmp_le rfl (fun h42 => absurd h42 (fun z => absurd ((nI_leI (b := 6) (by omega) (by decide)).mp z) (by omega))) (fun h42 => ?_)
        refine Ev_aload rfl rfl rfl ?_
        refine Ev_const rfl ?_
        refine Ev_aload rfl rfl rfl ?_
        refine Ev_getI rfl (by first | rfl | assumption) ?_
        refine Ev_norm hfr ?_
        refine Ev_const rfl ?_
        refine Ev_iadd rfl ?_
        refine Ev_norm (nI_add a 6) ?_
        refine Ev_callV rfl rfl rfl rfl rfl (same_n 402) (t_fail _ (w := 1) (k := a + 6) He (by decide) (fun _ _ => rfl)) ?_
        rintro v54 ρ54 σ54 ⟨rfl, e54, s54, c54⟩
        obtain rfl := e54.symm
        refine Ev_const rfl ?_
        exact Ev_ireturn rfl rfl rfl rfl ⟨rfl, rfl, s54, fun z => (by cases z), tn c54⟩
      refine T_of rfl ?_
      refine Ev_aload rfl rfl rfl ?_
      refine Ev_getI rfl (by first | rfl | assumption) ?_
      refine Ev_const rfl ?_
      refine Ev_icmp_eq rfl (fun h7 => ?_) (fun h7 => ?_)
      · exact long
      · refine Ev_aload rfl rfl rfl ?_
        refine Ev_getI rfl (by first | rfl | assumption) ?_
        refine Ev_const rfl ?_
        refine Ev_icmp_ge rfl (fun h17 => ?_) (fun h17 => absurd (hyes.elim (fun z => absurd z h7) id) h17)
        exact long
    · have ea : aNm U s = .inr (a + W.length, 1) := by unfold aNm; rw [if_neg hno, e3, if_neg h6, e1]; rfl
      have ev : vNm U s = W.map (fun c => c - 96) := by unfold vNm; rw [ea, e3]; rfl
      have hs2 : CTe (sI σ 316 (upd (σ.1 316) 5 (nI a))) U (.inr (a, tc)) := by
        obtain ⟨⟨g1, g2⟩, g3, g4, ⟨g5, g6⟩, g7, g8, g9⟩ := He
        exact ⟨⟨by rw [sR_0, pk_un (by decide)]; exact g1, fun j hj => by rw [sR_1 _ _ (by decide)]; exact g2 j hj⟩, g3, g4, ⟨by rw [sR_0, pk_un (by decide)]; exact g5, by rw [sR_0, pk_un (by decide)]; exact g6⟩, by rw [sR_0, pk_un (by decide)]; exact g7, by rw [sR_0, pk_un (by decide)]; exact g8, fun z => by rw [sR_0, pk_un (by decide)]; exact g9 z⟩
      have hn := t_nextH (l := l) (X := X) d hρ hT hs2 (by show skp U a < U.1; rw [hsk]; exact e2)
      rw [show skp U (a, tc).1 = a from hsk, k1, k2] at hn
      have loop : ∀ (m j : Nat), j + m = W.length → Ev l X (d + 6) 101 66 [.ref 316, .int (nI (n5 ((W.take j).map (fun c => c - 96)))), .int (nI (a + j))] [] 402 402 402 ρ σ (fun v ρ' σ' => v = some (.int (nI (n5 (vNm U s)))) ∧ ρ' = ρ ∧ CTe σ' U (aNm U s) ∧ (isOk (aNm U s) = true → σ'.1 316 5 = nI (rpos (lkS U s))) ∧ CF cTn σ σ') := by
        intro m
        induction m with
        | zero =>
          intro j hj
          have hj : j = W.length := by omega
          subst hj
          rw [List.take_of_length_le (Nat.le_refl _), ev, ea, e1]
          refine Ev_iload rfl rfl ?_
          refine Ev_aload rfl rfl rfl ?_
          refine Ev_getI rfl (by first | rfl | assumption) ?_
          refine Ev_norm hto ?_
          refine Ev_icmp_ge rfl (fun h71 => ?_) (fun h71 => absurd (nI_le (Nat.le_refl _) (by omega)) h71)
          refine Ev_aload rfl rfl rfl ?_
          refine Ev_aload rfl rfl rfl ?_
          refine Ev_getI rfl (by first | rfl | assumption) ?_
          refine Ev_norm hfr ?_
          refine Ev_putI rfl (by first | rfl | assumption) ⟨rfl, rfl⟩ rfl ?_
          refine Ev_aload rfl rfl rfl ?_
          refine Ev_callV rfl rfl rfl rfl rfl (same_n 402) hn ?_
          rintro v112 ρ112 σ112 ⟨rfl, e112, s112, c112⟩
          obtain rfl := e112.symm
          refine Ev_iload rfl rfl ?_
          exact Ev_ireturn rfl rfl rfl rfl ⟨rfl, rfl, s112, fun _ => by rw [c112.1 316 5 rfl, sR_0, pk_us]; rfl, (CF.put _ _ rfl).tr (tn c112)⟩
        | succ m ih =>
          intro j hj
          have hjlt : j < W.length := by omega
          have h256 := hT.2 (a + j)
          have hlt := (f3 j hjlt).2
          have hr := ltB_r hlt
          have hstep : n5 ((W.take (j + 1)).map (fun c => c - 96)) = n5 ((W.take j).map (fun c => c - 96)) ||| 2 ^ (5 * j) * (U.2 (a + j) - 96) := by
            have hd := (f3 j hjlt).1
            rw [List.getD_eq_getElem?_getD, List.getElem?_eq_getElem hjlt] at hd
            have hd : W[j] = U.2 (a + j) := hd
            rw [List.take_succ, List.getElem?_eq_getElem hjlt, List.map_append]
            show n5 ((W.take j).map (fun c => c - 96) ++ [W[j] - 96]) = _
            rw [n5_app, hlen j (by omega), hd]
            have hb := n5_low (hl32 j (by omega))
            rw [hlen j (by omega), show (32 : Nat) ^ j = 2 ^ (5 * j) by rw [Nat.pow_mul]] at hb
            rw [show (32 : Nat) ^ j = 2 ^ (5 * j) by rw [Nat.pow_mul], Nat.or_comm, ← Nat.two_pow_add_eq_or_of_lt hb, Nat.mul_comm (2 ^ (5 * j)), Nat.add_comm]
          refine Ev_iload rfl rfl ?_
          refine Ev_aload rfl rfl rfl ?_
          refine Ev_getI rfl (by first | rfl | assumption) ?_
          refine Ev_norm hto ?_
          refine Ev_icmp_ge rfl (fun h71 => absurd h71 (nI_ge (by omega) (by omega))) (fun h71 => ?_)
          refine Ev_iload rfl rfl ?_
          refine Ev_aload rfl rfl rfl ?_
          refine Ev_getR rfl (by first | rfl | assumption) (hρ _ _ _ rfl) ?_
          refine Ev_iload rfl rfl ?_
          refine Ev_bald rfl (by first | rfl | assumption) (vp_in_nI (n := a + j) (show a + j < 1600 by omega) (by decide)) ?_
          refine Ev_norm (by rw [nI_clamp (by omega), hby.2 _ (by omega)]; exact (sb_ltr _ h256 _ hr.1 hr.2).mpr rfl : _ = nI (U.2 (a + j))) ?_
          refine Ev_const rfl ?_
          refine Ev_isub rfl ?_
          refine Ev_norm (pk_sub (b := 97) (by omega) : _ = nI (U.2 (a + j) - 97)) ?_
          refine Ev_const rfl ?_
          refine Ev_iadd rfl ?_
          refine Ev_norm (show _ = nI (U.2 (a + j) - 96) by refine (nI_1 _).trans ?_; congr 1; omega) ?_
          refine Ev_const rfl ?_
          refine Ev_iload rfl rfl ?_
          refine Ev_aload rfl rfl rfl ?_
          refine Ev_getI rfl (by first | rfl | assumption) ?_
          refine Ev_norm hfr ?_
          refine Ev_isub rfl ?_
          refine Ev_norm (show _ = nI j by rw [pk_sub (by omega), Nat.add_sub_cancel_left]) ?_
          refine Ev_imul rfl ?_
          refine Ev_norm (pk_mul 5 j) ?_
          refine Ev_ishl rfl ?_
          refine Ev_norm (shl_5 j (by omega) _ (by omega)) ?_
          refine Ev_ior rfl ?_
          refine Ev_norm (show _ = nI (n5 ((W.take (j + 1)).map (fun c => c - 96))) by rw [nI_or, hstep]) ?_
          refine Ev_istore rfl ?_
          refine Ev_iincE rfl rfl (nI_1 (a + j) : _ = nI (a + (j + 1))) ?_
          refine Ev_goto rfl ?_
          exact ih (j + 1) (by omega)
      have short : Ev l X (d + 6) 101 31 [.ref 316, .float 0, .float 0] [] 402 402 402 ρ σ (fun v ρ' σ' => v = some (.int (nI (n5 (vNm U s)))) ∧ ρ' = ρ ∧ CTe σ' U (aNm U s) ∧ (isOk (aNm U s) = true → σ'.1 316 5 = nI (rpos (lkS U s))) ∧ CF cTn σ σ') := by
        refine Ev_aload rfl rfl rfl ?_
        refine Ev_getI rfl (by first | rfl | assumption) ?_
        refine Ev_norm hto ?_
        refine Ev_aload rfl rfl rfl ?_
        refine Ev_getI rfl (by first | rfl | assumption) ?_
        refine Ev_norm hfr ?_
        refine Ev_isub rfl ?_
        refine Ev_norm (show _ = nI W.length by rw [pk_sub (by omega), Nat.add_sub_cancel_left]) ?_
        refine Ev_const rfl ?_
        refine Ev_icmp_le rfl (fun h42 => ?_) (fun h42 => absurd (nI_le (b := 6) (by omega) (by decide)) h42)
        refine Ev_const rfl ?_
        refine Ev_istore rfl ?_
        refine Ev_aload rfl rfl rfl ?_
        refine Ev_getI rfl (by first | rfl | assumption) ?_
        refine Ev_norm hfr ?_
        refine Ev_istore rfl ?_
        exact loop W.length 0 (Nat.zero_add _)
      refine T_of rfl ?_
      refine Ev_aload rfl rfl rfl ?_
      refine Ev_getI rfl (by first | rfl | assumption) ?_
      refine Ev_const rfl ?_
      refine Ev_icmp_eq rfl (fun h7 => ?_) (fun h7 => ?_)
      · exact short
      · refine Ev_aload rfl rfl rfl ?_
        refine Ev_getI rfl (by first | rfl | assumption) ?_
        refine Ev_const rfl ?_
        refine Ev_icmp_ge rfl (fun h17 => ?_) (fun h17 => absurd (hyes.elim (fun z => absurd z h7) id) h17)
        exact short
end S88j
