/-! A formula read: the class, what its methods are made of. -/
/-- the orders' cells: from a place on what was told -/
def COr (σ : St) (O bs : Nat) (out : List Nat) : Prop := bs ≤ 1620 ∧ σ.1 O 2 = nI (if bs + out.length < 1620 then bs + out.length else 1620) ∧ ∀ j, j < out.length → bs + j < 1620 → σ.1 (O + 1) (bs + j) = nI (cc (out.getD j 0))
def cOr (O bs k j : Nat) : Bool := (Nat.beq k O && Nat.beq j 2) || (Nat.beq k (O + 1) && Nat.ble bs j)
def cFo (O bs k j : Nat) : Bool := cTt k j || cOr O bs k j
/-- reading a formula: where, what is told, of which kind -/
def FPr (σ : St) (U : Tx) (O bs k : Nat) (x : Xs) : Prop := CTt σ U x.1 ∧ COr σ O bs x.2 ∧ σ.1 318 2 = nI k
def OkO (O : Nat) : Prop := O = 12 ∨ O = 27 ∨ O = 319
theorem cOr_f {O bs k j : Nat} (h1 : k ≠ O) (h2 : k ≠ O + 1) : cOr O bs k j = false := by unfold cOr; rw [nbeq h1, nbeq h2]; rfl
theorem getD_app {l : List Nat} {t j : Nat} : (l ++ [t]).getD j 0 = if j < l.length then l.getD j 0 else if j = l.length then t else 0 := by
  rw [List.getD_eq_getElem?_getD, List.getD_eq_getElem?_getD, List.getElem?_append]
  by_cases h : j < l.length
  · rw [if_pos h, if_pos h]
  · rw [if_neg h, if_neg h]
    by_cases h2 : j = l.length
    · rw [if_pos h2, h2, Nat.sub_self]; rfl
    · rw [if_neg h2, show j - l.length = (j - l.length - 1) + 1 by omega]; rfl
theorem COr.cf {C : Nat → Nat → Bool} {σ σ' : St} {O bs : Nat} {out : List Nat} (H : COr σ O bs out) (hs : CF C σ σ') (h1 : ∀ j, C O j = false) (h2 : ∀ j, C (O + 1) j = false) : COr σ' O bs out :=
  ⟨H.1, by rw [hs.1 _ _ (h1 _)]; exact H.2.1, fun j hj hb => by rw [hs.1 _ _ (h2 _)]; exact H.2.2 j hj hb⟩
theorem CTt.cf {C : Nat → Nat → Bool} {σ σ' : St} {U : Tx} {s : Rdg} (H : CTt σ U s) (hs : CF C σ σ') (h1 : ∀ j, C 316 j = false) (h2 : ∀ j, C 1 j = false) : CTt σ' U s := by
  obtain ⟨g1, g2, g3⟩ := H
  refine ⟨by rw [hs.1 _ _ (h1 _)]; exact g1, fun j hj => by rw [hs.1 _ _ (h2 _)]; exact g2 j hj, ?_⟩
  cases s with
  | inl e =>
    obtain ⟨k1, k2, k3, a, k4, k5⟩ := g3
    exact ⟨by rw [hs.1 _ _ (h1 _)]; exact k1, by rw [hs.1 _ _ (h1 _)]; exact k2, k3, a, k4, by rw [hs.1 _ _ (h1 _)]; exact k5⟩
  | inr p =>
    obtain ⟨k1, k2, k3, k4, k5, k6⟩ := g3
    exact ⟨k1, k2, by rw [hs.1 _ _ (h1 _)]; exact k3, by rw [hs.1 _ _ (h1 _)]; exact k4, by rw [hs.1 _ _ (h1 _)]; exact k5, by rw [hs.1 _ _ (h1 _)]; exact k6⟩
theorem FPr.tx {σ σ' : St} {U : Tx} {O bs k : Nat} {x : Xs} {s : Rdg} (hO : OkO O) (H : FPr σ U O bs k x) (h : CTt σ' U s) (hs : CF cTt σ σ') : FPr σ' U O bs k (s, x.2) := by
  have h1 : O ≠ 316 ∧ O + 1 ≠ 316 := by rcases hO with rfl | rfl | rfl <;> decide
  exact ⟨h, H.2.1.cf hs (fun j => cTt_f h1.1) (fun j => cTt_f h1.2), by rw [hs.1 318 _ (cTt_f (by decide))]; exact H.2.2⟩
theorem FPr.or {σ σ' : St} {U : Tx} {O bs k : Nat} {x : Xs} {out : List Nat} (hO : OkO O) (H : FPr σ U O bs k x) (h : COr σ' O bs out) (hs : CF (cOr O bs) σ σ') : FPr σ' U O bs k (x.1, out) := by
  have h1 : (316 ≠ O ∧ 316 ≠ O + 1) ∧ (318 ≠ O ∧ 318 ≠ O + 1) ∧ (1 ≠ O ∧ 1 ≠ O + 1) := by rcases hO with rfl | rfl | rfl <;> decide
  exact ⟨H.1.cf hs (fun j => cOr_f h1.1.1 h1.1.2) (fun j => cOr_f h1.2.2.1 h1.2.2.2), h, by rw [hs.1 318 _ (cOr_f h1.2.1.1 h1.2.1.2)]; exact H.2.2⟩
theorem cTt_Fo {O bs : Nat} {σ σ' : St} (h : CF cTt σ σ') : CF (cFo O bs) σ σ' := h.wk (fun k j q => by unfold cFo at q; rw [Bool.or_eq_false_iff] at q; exact q.1)
theorem cOr_Fo {O bs : Nat} {σ σ' : St} (h : CF (cOr O bs) σ σ') : CF (cFo O bs) σ σ' := h.wk (fun k j q => by unfold cFo at q; rw [Bool.or_eq_false_iff] at q; exact q.2)
section S88l
variable {l : Launch} {X : Cx} {ρ : Rf} {U : Tx} {O bs k : Nat}
theorem t_add (d : Nat) {σ : St} {out : List Nat} {t : Nat} (hρ : RF ρ) (hO : OkO O) (H : COr σ O bs out) :
    T l X d 69 [.ref O, .int (nI (cc t))] 400 400 ρ σ (fun v ρ' σ' => v = none ∧ ρ' = ρ ∧ COr σ' O bs (out ++ [t]) ∧ CF (cOr O bs) σ σ') := by
  obtain ⟨o1, o2, o3, -, -, -, r1, -⟩ := OrdO_of hρ hO
  obtain ⟨h0, h1, h2⟩ := H
  have hOO : O ≠ O + 1 := by omega
  by_cases hz : bs + out.length < 1620
  · rw [if_pos hz] at h1
    refine T_of rfl ?_
    refine Ev_aload rfl rfl rfl ?_
    refine Ev_getI rfl (by first | rfl | assumption) ?_
    refine Ev_norm h1 ?_
    refine Ev_const rfl ?_
    refine Ev_icmp_ge rfl (fun h7 => absurd h7 (nI_ge (b := 1620) hz (by decide))) (fun h7 => ?_)
    refine Ev_aload rfl rfl rfl ?_
    refine Ev_getR rfl (by first | rfl | assumption) r1 ?_
    refine Ev_aload rfl rfl rfl ?_
    refine Ev_getI rfl (by first | rfl | assumption) ?_
    refine Ev_norm h1 ?_
    refine Ev_iload rfl rfl ?_
    refine Ev_iast rfl o2 (by rw [o3]; exact vp_in_nI (n := bs + out.length) hz (by decide)) ?_
    rw [nI_clamp (show bs + out.length < 2 ^ 31 by omega)]
    refine Ev_aload rfl rfl rfl ?_
    refine Ev_dup rfl (fun _ q => nomatch q) ?_
    refine Ev_getI rfl (by first | rfl | assumption) ?_
    refine Ev_norm (by rw [sR_1 _ _ hOO]; exact h1 : _ = nI (bs + out.length)) ?_
    refine Ev_const rfl ?_
    refine Ev_iadd rfl ?_
    refine Ev_norm (nI_1 (bs + out.length)) ?_
    refine Ev_putI rfl (by first | rfl | assumption) ⟨rfl, rfl⟩ rfl ?_
    exact Ev_return rfl rfl rfl ⟨rfl, rfl, ⟨h0, by
    rw [sR_0, pk_us, List.length_append]
    show nI (bs + out.length + 1) = nI (if bs + (out.length + 1) < 1620 then bs + (out.length + 1) else 1620)
    by_cases hz2 : bs + (out.length + 1) < 1620
    · rw [if_pos hz2]; rfl
    · rw [if_neg hz2, show bs + out.length + 1 = 1620 by omega], fun j hj hb => by
    rw [List.length_append] at hj
    have hj : j < out.length + 1 := hj
    rw [sR_1 _ _ (Ne.symm hOO), sR_0, getD_app]
    by_cases hq : j = out.length
    · rw [if_neg (by omega), if_pos hq, hq, pk_us]
    · rw [if_pos (by omega), pk_un (by omega)]; exact h2 j (by omega) hb⟩, (CF.put _ _ (by unfold cOr; rw [Nat.beq_refl, show Nat.ble bs (bs + out.length) = true from Nat.ble_eq.mpr (by omega)]; exact Bool.or_true _)).tr (CF.put _ _ (by unfold cOr; rw [Nat.beq_refl]; rfl))⟩
  · rw [if_neg hz] at h1
    refine T_of rfl ?_
    refine Ev_aload rfl rfl rfl ?_
    refine Ev_getI rfl (by first | rfl | assumption) ?_
    refine Ev_norm h1 ?_
    refine Ev_const rfl ?_
    refine Ev_icmp_ge rfl (fun h7 => ?_) (fun h7 => absurd (by decide) h7)
    exact Ev_return rfl rfl rfl ⟨rfl, rfl, ⟨h0, by
    rw [List.length_append, h1]
    show _ = nI (if bs + (out.length + 1) < 1620 then bs + (out.length + 1) else 1620)
    rw [if_neg (by omega)], fun j hj hb => by
    rw [getD_app, if_pos (by omega)]
    exact h2 j (by omega) hb⟩, CF.rf _ _⟩
theorem num_tk : ∀ v, v ≤ 9999 → cc (256 * v + 32) = 256 * v + 32 := fun v _ => by unfold cc; rw [if_neg (by omega)]
theorem num_or {v : Nat} (h : v ≤ 9999) : (nI v <<< ((8 : Int32) &&& 31)) ||| 32 = nI (256 * v + 32) := by
  have e : nI v <<< ((8 : Int32) &&& 31) = nI (256 * v) := by
    have : nI v <<< ((8 : Int32) &&& 31) = nI (v <<< 8) := by
      apply Int32.toBitVec_inj.mp
      apply BitVec.eq_of_toNat_eq
      show (BitVec.ofNat 32 v <<< (((8 : Int32) &&& 31).toBitVec.smod 32)).toNat = (BitVec.ofNat 32 (v <<< 8)).toNat
      rw [BitVec.shiftLeft_eq', show (((8 : Int32) &&& 31).toBitVec.smod 32).toNat = 8 from by decide, BitVec.toNat_shiftLeft, BitVec.toNat_ofNat, BitVec.toNat_ofNat, Nat.mod_eq_of_lt (show v < 2 ^ 32 by omega)]
    rw [this, Nat.shiftLeft_eq, Nat.mul_comm]
  rw [e]
  refine (nI_or (256 * v) 32).trans ?_
  congr 1
  have := Nat.two_pow_add_eq_or_of_lt (show 32 < 2 ^ 8 by decide) v
  exact this.symm
theorem t_addNumber (d : Nat) {σ : St} {out : List Nat} {v : Nat} (hρ : RF ρ) (hO : OkO O) (hv : v ≤ 9999) (H : COr σ O bs out) :
    T l X (d + 1) 70 [.ref O, .int (nI v)] 400 400 ρ σ (fun v' ρ' σ' => v' = none ∧ ρ' = ρ ∧ COr σ' O bs (out ++ [256 * v + 32]) ∧ CF (cOr O bs) σ σ') := by
  have ht := t_add (l := l) (X := X) d (t := 256 * v + 32) hρ hO H
  rw [num_tk v hv] at ht
  refine T_of rfl ?_
  refine Ev_aload rfl rfl rfl ?_
  refine Ev_iload rfl rfl ?_
  refine Ev_const rfl ?_
  refine Ev_ishl rfl ?_
  refine Ev_const rfl ?_
  refine Ev_ior rfl ?_
  refine Ev_norm (num_or hv) ?_
  refine Ev_callV rfl rfl rfl ((OrdO_of hρ hO).1) rfl (same_n 400) ht ?_
  rintro v8 ρ8 σ8 ⟨rfl, e8, s8, c8⟩
  obtain rfl := e8.symm
  exact Ev_return rfl rfl rfl ⟨rfl, rfl, s8, c8⟩
theorem fltV {σ : St} {s : Rdg} (H : CTt σ U s) : (isOk s = true → σ.1 316 5 = 0) ∧ (isOk s = false → ∃ w, 0 < w ∧ w < 10 ∧ σ.1 316 5 = nI w) := by
  cases s with
  | inl e => exact ⟨fun z => (by cases z), fun _ => ⟨e.1, H.2.2.2.2.1.1, H.2.2.2.2.1.2, H.2.2.1⟩⟩
  | inr p => exact ⟨fun _ => H.2.2.2.2.2.2.1, fun z => (by cases z)⟩
theorem t_mayOpen (d : Nat) {σ : St} {s : Rdg} {o n : Nat} (hρ : RF ρ) (ho : o + n = 6) (H : CTt σ U s) :
    T l X (d + 1) 40 [.ref 318, .int (nI o)] 400 400 ρ σ (fun v ρ' σ' => v = some (.int (bI (isOk (moS n s)))) ∧ ρ' = ρ ∧ CTt σ' U (moS n s) ∧ CF cTt σ σ') := by
  have fin : ∀ σ1, CTt σ1 U (moS n s) → CF cTt σ σ1 → Ev l X (d + 1) 40 21 [.ref 318, .int (nI o)] [] 400 400 400 ρ σ1 (fun v ρ' σ' => v = some (.int (bI (isOk (moS n s)))) ∧ ρ' = ρ ∧ CTt σ' U (moS n s) ∧ CF cTt σ σ') := by
    intro σ1 s1 c1
    cases hq : isOk (moS n s) with
    | true =>
      refine Ev_aload rfl rfl rfl ?_
      refine Ev_getR rfl (by first | rfl | assumption) (hρ _ _ _ rfl) ?_
      refine Ev_getI rfl (by first | rfl | assumption) ?_
      refine Ev_norm ((fltV s1).1 hq) ?_
      refine Ev_if_ne rfl (fun h28 => absurd rfl h28) (fun h28 => ?_)
      refine Ev_const rfl ?_
      refine Ev_goto rfl ?_
      exact Ev_ireturn rfl rfl rfl rfl ⟨rfl, rfl, s1, c1⟩
    | false =>
      obtain ⟨w, w1, w2, w3⟩ := (fltV s1).2 hq
      refine Ev_aload rfl rfl rfl ?_
      refine Ev_getR rfl (by first | rfl | assumption) (hρ _ _ _ rfl) ?_
      refine Ev_getI rfl (by first | rfl | assumption) ?_
      refine Ev_norm w3 ?_
      refine Ev_if_ne rfl (fun h28 => ?_) (fun h28 => absurd (nI_ne0 w1 (by omega)) h28)
      refine Ev_const rfl ?_
      exact Ev_ireturn rfl rfl rfl rfl ⟨rfl, rfl, s1, c1⟩
  refine T_of rfl ?_
  by_cases hn : n = 0
  · have e : moS n s = flA 4 0 s := if_pos hn
    refine Ev_iload rfl rfl ?_
    refine Ev_const rfl ?_
    refine Ev_icmp_lt rfl (fun h3 => absurd h3 (nI_nlt (b := 6) (by omega) (by omega))) (fun h3 => ?_)
    refine Ev_aload rfl rfl rfl ?_
    refine Ev_getR rfl (by first | rfl | assumption) (hρ _ _ _ rfl) ?_
    refine Ev_const rfl ?_
    refine Ev_aload rfl rfl rfl ?_
    refine Ev_getR rfl (by first | rfl | assumption) (hρ _ _ _ rfl) ?_
    refine Ev_getI rfl (by first | rfl | assumption) ?_
    refine Ev_callV rfl rfl rfl rfl rfl (same_n 400) (t_fail _ (w := 4) H (by decide) (atV H)) ?_
    rintro v18 ρ18 σ18 ⟨rfl, e18, s18, c18⟩
    obtain rfl := e18.symm
    exact fin σ18 (by rw [e, flA_P]; exact s18) c18
  · have e : moS n s = s := if_neg hn
    refine Ev_iload rfl rfl ?_
    refine Ev_const rfl ?_
    refine Ev_icmp_lt rfl (fun h3 => ?_) (fun h3 => absurd (nI_lt (b := 6) (by omega) (by decide)) h3)
    exact fin σ (by rw [e]; exact H) (CF.rf _ _)
theorem t_takenSign (d : Nat) {σ : St} {s : Rdg} (hρ : RF ρ) (hT : TxW U) (H : CTt σ U s) :
    T l X (d + 4) 41 [.ref 318] 400 400 ρ σ (fun v ρ' σ' => v = some (.int (nI (sgT U s))) ∧ ρ' = ρ ∧ CTt σ' U (sgS U s) ∧ CF cTt σ σ') := by
  unfold sgS sgT
  refine T_of rfl ?_
  refine Ev_aload rfl rfl rfl ?_
  refine Ev_getR rfl (by first | rfl | assumption) (hρ _ _ _ rfl) ?_
  refine Ev_const rfl ?_
  refine Ev_callV rfl rfl rfl rfl rfl (same_n 400) (t_takeSign _ (c := 60) hρ hT (by decide) H) ?_
  rintro v6 ρ6 σ6 ⟨rfl, e6, s6, c6⟩
  obtain rfl := e6.symm
  refine Ev_if_eq rfl (fun h9 => ?_) (fun h9 => ?_)
  · have hz := of_decide_eq_false (ff_of h9)
    rw [if_neg hz, if_neg hz]
    rw [tSg_n hz] at s6
    refine Ev_aload rfl rfl rfl ?_
    refine Ev_getR rfl (by first | rfl | assumption) (hρ _ _ _ rfl) ?_
    refine Ev_const rfl ?_
    refine Ev_callV rfl rfl rfl rfl rfl (same_n 400) (t_takeSign _ (c := 62) hρ hT (by decide) s6) ?_
    rintro v21 ρ21 σ21 ⟨rfl, e21, s21, c21⟩
    obtain rfl := e21.symm
    refine Ev_if_eq rfl (fun h24 => ?_) (fun h24 => ?_)
    · refine Ev_aload rfl rfl rfl ?_
      refine Ev_getR rfl (by first | rfl | assumption) (hρ _ _ _ rfl) ?_
      refine Ev_const rfl ?_
      refine Ev_callV rfl rfl rfl rfl rfl (same_n 400) (t_askSign _ (c := 61) hρ hT (by decide) s21) ?_
      rintro v36 ρ36 σ36 ⟨rfl, e36, s36, c36⟩
      obtain rfl := e36.symm
      refine Ev_const rfl ?_
      exact Ev_ireturn rfl rfl rfl rfl (by
      have hz2 := of_decide_eq_false (ff_of h24)
      rw [lkC_i] at hz2
      rw [if_neg hz2, if_neg hz2]
      rw [tSg_i, tSg_n hz2, aSg_i] at s36
      exact ⟨rfl, rfl, s36, (c6.tr c21).tr c36⟩)
    · refine Ev_const rfl ?_
      exact Ev_ireturn rfl rfl rfl rfl (by
      have hz2 := of_decide_eq_true (rt_of h24)
      rw [lkC_i] at hz2
      rw [if_pos hz2, if_pos hz2]
      rw [tSg_i, tSg_y hz2] at s21
      exact ⟨rfl, rfl, s21, c6.tr c21⟩)
  · refine Ev_const rfl ?_
    exact Ev_ireturn rfl rfl rfl rfl (by
    have hz := of_decide_eq_true (rt_of h9)
    rw [if_pos hz, if_pos hz]
    rw [tSg_y hz] at s6
    exact ⟨rfl, rfl, s6, c6⟩)
def sgV : Option Nat → Int32
  | none => -1
  | some i => nI i
def tkSg (U : Tx) (k : Nat) (s : Rdg) : Rdg := match sgF k (wAt U s) with
  | some _ => adv (wAt U s).length 1 (lkS U s)
  | none => lkS U s
/-- a word tried, among the sights -/
theorem tk_word (d : Nat) {σ : St} {s : Rdg} {q : Nat} {w : List Nat} (hρ : RF ρ) (hT : TxW U) (hq : q < nStr) (hq1 : q ≠ 1) (hw : wlS q = w) (hs : lkS U s = s) (H : CTt σ U s) :
    T l X (d + 6) 103 [.ref 316, .retAddr (2 * q)] 400 400 ρ σ (fun v ρ' σ' => v = some (.int (bI (decide (wAt U s = w)))) ∧ ρ' = ρ ∧ CTt σ' U (if wAt U s = w then adv (wAt U s).length 1 s else s) ∧ CF cTt σ σ') := by
  refine (t_takeWord d hρ hT hq (wl_l hq hq1) (wl_ok q hq hq1).2 H).mono (fun v ρ' σ' h => ?_)
  rw [hw] at h
  refine ⟨h.1, h.2.1, ?_, h.2.2.2⟩
  have h3 := h.2.2.1
  by_cases hz : wAt U s = w
  · rw [tWd_y hz, hs] at h3; rw [if_pos hz, hz]; exact h3
  · rw [tWd_n hz, hs] at h3; rw [if_neg hz]; exact h3
end S88l
