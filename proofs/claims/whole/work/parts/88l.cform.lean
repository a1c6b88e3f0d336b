/-! A formula read: the class, what its methods are made of. -/
/-- the orders' cells: from a place on what was told -/
def COr (σ : St) (O bs : Nat) (out : List Nat) : Prop := bs ≤ 1620 ∧ σ.1 O 4 = nI (if bs + out.length < 1620 then bs + out.length else 1620) ∧ ∀ j, j < out.length → bs + j < 1620 → σ.1 (O + 1) (bs + j) = nI (cc (out.getD j 0))
def cOr (O bs k j : Nat) : Bool := (Nat.beq k O && Nat.beq j 4) || (Nat.beq k (O + 1) && Nat.ble bs j)
def cFo (O bs k j : Nat) : Bool := cTt k j || cOr O bs k j
/-- reading a formula: where, what is told, of which kind -/
def FPr (σ : St) (U : Tx) (O bs k : Nat) (x : Xs) : Prop := CTt σ U x.1 ∧ COr σ O bs x.2 ∧ σ.1 318 2 = nI k
def OkO (O : Nat) : Prop := O = 12 ∨ O = 27 ∨ O = 319
theorem cOr_f {O bs k j : Nat} (h1 : k ≠ O) (h2 : k ≠ O + 1) : cOr O bs k j = false := by unfold cOr; rw [nbeq h1, nbeq h2]; rfl
theorem getD_app {l : List Nat} {t j : Nat} : (l ++ [t]).getD j 0 = if j < l.length then l.getD j 0 else if j = l.length then t else 0 := by
  rw [List.getD_eq_getElem?_getD, List.getD_eq_getElem?_getD, List.getElem?_append]
  by_cases h : j < l.length
  · rw [if_pos h, if_pos h]
  · rw [if_neg h, if_neg h]
    by_cases h2 : j = l.length
    · rw [if_pos h2, h2, Nat.sub_self]; rfl
    · rw [if_neg h2, show j - l.length = (j - l.length - 1) + 1 by omega]; rfl
theorem COr.cf {C : Nat → Nat → Bool} {σ σ' : St} {O bs : Nat} {out : List Nat} (H : COr σ O bs out) (hs : CF C σ σ') (h1 : ∀ j, C O j = false) (h2 : ∀ j, C (O + 1) j = false) : COr σ' O bs out :=
  ⟨H.1, by rw [hs.1 _ _ (h1 _)]; exact H.2.1, fun j hj hb => by rw [hs.1 _ _ (h2 _)]; exact H.2.2 j hj hb⟩
theorem CTe.cf {C : Nat → Nat → Bool} {σ σ' : St} {U : Tx} {s : Rdg} (H : CTe σ U s) (hs : CF C σ σ') (h1 : ∀ j, C 316 j = false) (h2 : ∀ j, C 1 j = false) : CTe σ' U s := by
  obtain ⟨g1, g3⟩ := H
  refine ⟨g1.cf hs (h1 _) h2, ?_⟩
  cases s with
  | inl e =>
    obtain ⟨k1, k2, k3, k4⟩ := g3
    exact ⟨by rw [hs.1 _ _ (h1 _)]; exact k1, by rw [hs.1 _ _ (h1 _)]; exact k2, k3, by rw [hs.1 _ _ (h1 _)]; exact k4⟩
  | inr p =>
    obtain ⟨k1, k2, ⟨k3, k4⟩, k5, k6, k7⟩ := g3
    exact ⟨k1, k2, ⟨by rw [hs.1 _ _ (h1 _)]; exact k3, by rw [hs.1 _ _ (h1 _)]; exact k4⟩, by rw [hs.1 _ _ (h1 _)]; exact k5, by rw [hs.1 _ _ (h1 _)]; exact k6, fun z => by rw [hs.1 _ _ (h1 _)]; exact k7 z⟩
theorem CTt.cf {C : Nat → Nat → Bool} {σ σ' : St} {U : Tx} {s : Rdg} (H : CTt σ U s) (hs : CF C σ σ') (h1 : ∀ j, C 316 j = false) (h2 : ∀ j, C 1 j = false) : CTt σ' U s := by
  obtain ⟨s0, g1, g2⟩ := H
  exact ⟨s0, g1.cf hs h1 h2, g2⟩
theorem FPr.tx {σ σ' : St} {U : Tx} {O bs k : Nat} {x : Xs} {s : Rdg} (hO : OkO O) (H : FPr σ U O bs k x) (h : CTt σ' U s) (hs : CF cTt σ σ') : FPr σ' U O bs k (s, x.2) := by
  have h1 : O ≠ 316 ∧ O + 1 ≠ 316 := by rcases hO with rfl | rfl | rfl <;> decide
  exact ⟨h, H.2.1.cf hs (fun j => cTt_f h1.1) (fun j => cTt_f h1.2), by rw [hs.1 318 _ (cTt_f (by decide))]; exact H.2.2⟩
theorem FPr.or {σ σ' : St} {U : Tx} {O bs k : Nat} {x : Xs} {out : List Nat} (hO : OkO O) (H : FPr σ U O bs k x) (h : COr σ' O bs out) (hs : CF (cOr O bs) σ σ') : FPr σ' U O bs k (x.1, out) := by
  have h1 : (316 ≠ O ∧ 316 ≠ O + 1) ∧ (318 ≠ O ∧ 318 ≠ O + 1) ∧ (1 ≠ O ∧ 1 ≠ O + 1) := by rcases hO with rfl | rfl | rfl <;> decide
  exact ⟨H.1.cf hs (fun j => cOr_f h1.1.1 h1.1.2) (fun j => cOr_f h1.2.2.1 h1.2.2.2), h, by rw [hs.1 318 _ (cOr_f h1.2.1.1 h1.2.1.2)]; exact H.2.2⟩
theorem cTt_Fo {O bs : Nat} {σ σ' : St} (h : CF cTt σ σ') : CF (cFo O bs) σ σ' := h.wk (fun k j q => by unfold cFo at q; rw [Bool.or_eq_false_iff] at q; exact q.1)
theorem cOr_Fo {O bs : Nat} {σ σ' : St} (h : CF (cOr O bs) σ σ') : CF (cFo O bs) σ σ' := h.wk (fun k j q => by unfold cFo at q; rw [Bool.or_eq_false_iff] at q; exact q.2)
section S88l
variable {l : Launch} {X : Cx} {ρ : Rf} {U : Tx} {O bs k : Nat}
theorem t_add (d : Nat) {σ : St} {out : List Nat} {t : Nat} (hρ : RF ρ) (hO : OkO O) (H : COr σ O bs out) :
    T l X d 69 [.ref O, .int (nI (cc t))] 402 402 ρ σ (fun v ρ' σ' => v = none ∧ ρ' = ρ ∧ COr σ' O bs (out ++ [t]) ∧ CF (cOr O bs) σ σ') := by
  obtain ⟨o1, o2, o3, -, -, -, r1, -⟩ := OrdO_of hρ hO
  obtain ⟨h0, h1, h2⟩ := H
  have hOO : O ≠ O + 1 := by omega
  by_cases hz : bs + out.length < 1620
  · rw [if_pos hz] at h1
    refine T_of rfl ?_
    refine Ev_aload rfl rfl rfl ?_
    refine Ev_getI rfl (by first | rfl | assumption) ?_
    refine Ev_norm h1 ?_
    refine Ev_const rfl ?_
    refine Ev_icmp_ge rfl (fun h7 => absurd h7 (nI_ge (b := 1620) hz (by decide))) (fun h7 => ?_)
    refine Ev_aload rfl rfl rfl ?_
    refine Ev_getR rfl (by first | rfl | assumption) r1 ?_
    refine Ev_aload rfl rfl rfl ?_
    refine Ev_getI rfl (by first | rfl | assumption) ?_
    refine Ev_norm h1 ?_
    refine Ev_iload rfl rfl ?_
    refine Ev_iast rfl o2 (by rw [o3]; exact vp_in_nI (n := bs + out.length) hz (by decide)) ?_
    rw [nI_clamp (show bs + out.length < 2 ^ 31 by omega)]
    refine Ev_aload rfl rfl rfl ?_
    refine Ev_dup rfl (fun _ q => nomatch q) ?_
    refine Ev_getI rfl (by first | rfl | assumption) ?_
    refine Ev_norm (by rw [sR_1 _ _ hOO]; exact h1 : _ = nI (bs + out.length)) ?_
    refine Ev_const rfl ?_
    refine Ev_iadd rfl ?_
    refine Ev_norm (nI_1 (bs + out.length)) ?_
    refine Ev_putI rfl (by first | rfl | assumption) ⟨rfl, rfl⟩ rfl ?_
    exact Ev_return rfl rfl rfl ⟨rfl, rfl, ⟨h0, by
    rw [sR_0, pk_us, List.length_append]
    show nI (bs + out.length + 1) = nI (if bs + (out.length + 1) < 1620 then bs + (out.length + 1) else 1620)
    by_cases hz2 : bs + (out.length + 1) < 1620
    · rw [if_pos hz2]; rfl
    · rw [if_neg hz2, show bs + out.length + 1 = 1620 by omega], fun j hj hb => by
    rw [List.length_append] at hj
    have hj : j < out.length + 1 := hj
    rw [sR_1 _ _ (Ne.symm hOO), sR_0, getD_app]
    by_cases hq : j = out.length
    · rw [if_neg (by omega), if_pos hq, hq, pk_us]
    · rw [if_pos (by omega), pk_un (by omega)]; exact h2 j (by omega) hb⟩, (CF.put _ _ (by unfold cOr; rw [Nat.beq_refl, show Nat.ble bs (bs + out.length) = true from Nat.ble_eq.mpr (by omega)]; exact Bool.or_true _)).tr (CF.put _ _ (by unfold cOr; rw [Nat.beq_refl]; rfl))⟩
  · rw [if_neg hz] at h1
    refine T_of rfl ?_
    refine Ev_aload rfl rfl rfl ?_
    refine Ev_getI rfl (by first | rfl | assumption) ?_
    refine Ev_norm h1 ?_
    refine Ev_const rfl ?_
    refine Ev_icmp_ge rfl (fun h7 => ?_) (fun h7 => absurd (by decide) h7)
    exact Ev_return rfl rfl rfl ⟨rfl, rfl, ⟨h0, by
    rw [List.length_append, h1]
    show _ = nI (if bs + (out.length + 1) < 1620 then bs + (out.length + 1) else 1620)
    rw [if_neg (by omega)], fun j hj hb => by
    rw [getD_app, if_pos (by omega)]
    exact h2 j (by omega) hb⟩, CF.rf _ _⟩
theorem num_tk : ∀ v, v ≤ 9999 → cc (256 * v + 32) = 256 * v + 32 := fun v _ => by unfold cc; rw [if_neg (by omega)]
theorem num_or {v : Nat} (h : v ≤ 9999) : (nI v <<< ((8 : Int32) &&& 31)) ||| 32 = nI (256 * v + 32) := by
  have e : nI v <<< ((8 : Int32) &&& 31) = nI (256 * v) := by
    have : nI v <<< ((8 : Int32) &&& 31) = nI (v <<< 8) := by
      apply Int32.toBitVec_inj.mp
      apply BitVec.eq_of_toNat_eq
      show (BitVec.ofNat 32 v <<< (((8 : Int32) &&& 31).toBitVec.smod 32)).toNat = (BitVec.ofNat 32 (v <<< 8)).toNat
      rw [BitVec.shiftLeft_eq', show (((8 : Int32) &&& 31).toBitVec.smod 32).toNat = 8 from by decide, BitVec.toNat_shiftLeft, BitVec.toNat_ofNat, BitVec.toNat_ofNat, Nat.mod_eq_of_lt (show v < 2 ^ 32 by omega)]
    rw [this, Nat.shiftLeft_eq, Nat.mul_comm]
  rw [e]
  refine (nI_or (256 * v) 32).trans ?_
  congr 1
  have := Nat.two_pow_add_eq_or_of_lt (show 32 < 2 ^ 8 by decide) v
  exact this.symm
theorem t_addNumber (d : Nat) {σ : St} {out : List Nat} {v : Nat} (hρ : RF ρ) (hO : OkO O) (hv : v ≤ 9999) (H : COr σ O bs out) :
    T l X (d + 1) 70 [.ref O, .int (nI v)] 402 402 ρ σ (fun v' ρ' σ' => v' = none ∧ ρ' = ρ ∧ COr σ' O bs (out ++ [256 * v + 32]) ∧ CF (cOr O bs) σ σ') := by
  have ht := t_add (l := l) (X := X) d (t := 256 * v + 32) hρ hO H
  rw [num_tk v hv] at ht
  refine T_of rfl ?_
  refine Ev_aload rfl rfl rfl ?_
  refine Ev_iload rfl rfl ?_
  refine Ev_const rfl ?_
  refine Ev_ishl rfl ?_
  refine Ev_const rfl ?_
  refine Ev_ior rfl ?_
  refine Ev_norm (num_or hv) ?_
  refine Ev_callV rfl rfl rfl ((OrdO_of hρ hO).1) rfl (same_n 402) ht ?_
  rintro v8 ρ8 σ8 ⟨rfl, e8, s8, c8⟩
  obtain rfl := e8.symm
  exact Ev_return rfl rfl rfl ⟨rfl, rfl, s8, c8⟩
theorem lk_fx {s : Rdg} {a tc : Nat} (h : lkS U s = .inr (a, tc)) : skp U a = a := by
  cases s with
  | inl e => cases h
  | inr p =>
    obtain ⟨r1, r2, r3⟩ := lk_r (U := U) p
    have e : (a, tc) = (skp U p.1, tcN U p.1 p.2) := by
      by_cases hl : U.1 ≤ skp U p.1
      · rw [(r1 hl).1] at h; exact (Sum.inr.inj h).symm
      · cases hc : cfl U (skp U p.1) (tcN U p.1 p.2) with
        | true => rw [(r2 (by omega) hc).1] at h; cases h
        | false => rw [(r3 (by omega) hc).1] at h; exact (Sum.inr.inj h).symm
    have e1 : a = skp U p.1 := congrArg Prod.fst e
    rw [e1]; exact skp_id _ _
theorem CTt.fr {σ : St} {s : Rdg} {a tc : Nat} (hT : TxW U) (H : CTt σ U s) (h : lkS U s = .inr (a, tc)) : σ.1 316 3 = nI a := by
  have := (H.ex hT h).2.2.2.2.1
  rw [show skp U (a, tc).1 = a from lk_fx h] at this
  exact this
theorem wAt_c {s : Rdg} (h : wAt U s ≠ []) : ∃ a tc, lkS U s = .inr (a, tc) ∧ lkC U s = some (U.2 a) ∧ ltB (U.2 a) = true := by
  cases hc : lkC U s with
  | none => exact absurd (wAt_none hc) h
  | some c =>
    obtain ⟨a, tc, e1, e2, e3, -⟩ := lk_some hc
    rw [wAt_of hc e1] at h
    exact ⟨a, tc, e1, by rw [e3], (wrd_ne.mp h).2⟩
theorem wAt_nd {s : Rdg} (hT : TxW U) (h : wAt U s ≠ []) : dgI (lkV (lkC U s)) = false ∧ ∀ c, ltB c = false → ¬ lkC U s = some c := by
  obtain ⟨a, tc, e1, e2, e3⟩ := wAt_c h
  rw [e2]
  refine ⟨(dgI_n _ (hT.2 a)).trans (lt_dg _ (hT.2 a) e3), fun c hc z => ?_⟩
  rw [Option.some.inj z, hc] at e3
  cases e3
theorem toI_n {x : Int32} {n : Nat} (hn : n < 2 ^ 31) (h : x.toInt = (n : Int)) : x = nI n := Int32.toInt_inj.mp (by rw [h, nI_toInt hn])
/-- one more is open: there is room -/
theorem t_opens1 (d : Nat) {σ : St} {y : Rdg} {o : Nat} (hρ : RF ρ) (ho : o < 6) (hn : T l X (d + 5) 96 [.ref 316] 402 402 ρ σ (fun v ρ' σ' => v = none ∧ ρ' = ρ ∧ CTe σ' U y ∧ CF cTt σ σ')) :
    T l X (d + 6) 37 [.ref 318, .int (nI o)] 402 402 ρ σ (fun v ρ' σ' => v = some (.int 1) ∧ ρ' = ρ ∧ CTe σ' U y ∧ CF cTt σ σ') := by
  refine T_of rfl ?_
  refine Ev_iload rfl rfl ?_
  refine Ev_const rfl ?_
  refine Ev_icmp_lt rfl (fun h3 => ?_) (fun h3 => absurd (nI_lt (b := 6) (by omega) (by decide)) h3)
  refine Ev_aload rfl rfl rfl ?_
  refine Ev_getR rfl (by first | rfl | assumption) (hρ _ _ _ rfl) ?_
  refine Ev_callV rfl rfl rfl rfl rfl (same_n 402) hn ?_
  rintro v27 ρ27 σ27 ⟨rfl, e27, s27, c27⟩
  obtain rfl := e27.symm
  refine Ev_const rfl ?_
  exact Ev_ireturn rfl rfl rfl rfl ⟨rfl, rfl, s27, c27⟩
/-- there is no room -/
theorem t_opens0 (d : Nat) {σ : St} {s : Rdg} {a tc : Nat} (hρ : RF ρ) (hT : TxW U) (H : CTt σ U s) (h : lkS U s = .inr (a, tc)) :
    T l X (d + 6) 37 [.ref 318, .int (nI 6)] 402 402 ρ σ (fun v ρ' σ' => v = some (.int 0) ∧ ρ' = ρ ∧ CTe σ' U (flA 4 0 (lkS U s)) ∧ CF cTt σ σ') := by
  have hfr := H.fr hT h
  rw [h]
  refine T_of rfl ?_
  refine Ev_iload rfl rfl ?_
  refine Ev_const rfl ?_
  refine Ev_icmp_lt rfl (fun h3 => absurd h3 (by decide)) (fun h3 => ?_)
  refine Ev_aload rfl rfl rfl ?_
  refine Ev_getR rfl (by first | rfl | assumption) (hρ _ _ _ rfl) ?_
  refine Ev_const rfl ?_
  refine Ev_aload rfl rfl rfl ?_
  refine Ev_getR rfl (by first | rfl | assumption) (hρ _ _ _ rfl) ?_
  refine Ev_getI rfl (by first | rfl | assumption) ?_
  refine Ev_norm hfr ?_
  refine Ev_callV rfl rfl rfl rfl rfl (same_n 402) (t_fail _ (w := 4) (k := a) (H.ex hT h) (by decide) (fun _ _ => rfl)) ?_
  rintro v18 ρ18 σ18 ⟨rfl, e18, s18, c18⟩
  obtain rfl := e18.symm
  refine Ev_const rfl ?_
  exact Ev_ireturn rfl rfl rfl rfl ⟨rfl, rfl, s18, c18⟩
def sgV : Option Nat → Int32
  | none => -1
  | some i => nI i
end S88l
