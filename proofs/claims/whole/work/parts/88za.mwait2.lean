/-! A formula read by the reference: brackets, ends of parts, squares. -/
theorem okS_c {e : Nat} {w : List Nat} (h : okS (e :: w)) : e ∈ [34, 35, 36, 37, 38, 39, 1020, 1021, 1022, 1023, 1024] ∧ okS w := ⟨h e List.mem_cons_self, fun x hx => h x (List.mem_cons_of_mem e hx)⟩
theorem okT_c {e : Nat} {w : List Nat} (h : okT (e :: w)) : e ∈ [33, 43, 44, 1025] ∧ okT w := ⟨h e List.mem_cons_self, fun x hx => h x (List.mem_cons_of_mem e hx)⟩
theorem MPc.pop {σ : St} {out w v : List Nat} (H : MPc σ out (w ++ v)) : PlW (σ.1 399) v := H.2.2.2.app
def brI (w : List Nat) : Int32 := if brk w = 0 then -1 else nI (brk w - 1000)
theorem brk_n {e : Nat} {w : List Nat} (h : isBr e = false) : brk (e :: w) = brk w ∧ rsA (e :: w) = rsA w ∧ opA (e :: w) = e :: opA w := by
  refine ⟨?_, ?_, ?_⟩
  · unfold brk; show (bif isBr e then e :: w else rsA w).headD 0 = _; rw [h]; rfl
  · show (bif isBr e then e :: w else rsA w) = _; rw [h]; rfl
  · show (bif isBr e then [] else e :: opA w) = _; rw [h]; rfl
theorem brk_y {e : Nat} {w : List Nat} (h : isBr e = true) : brk (e :: w) = e ∧ rsA (e :: w) = e :: w ∧ opA (e :: w) = [] := by
  refine ⟨?_, ?_, ?_⟩
  · unfold brk; show (bif isBr e then e :: w else rsA w).headD 0 = _; rw [h]; rfl
  · show (bif isBr e then e :: w else rsA w) = _; rw [h]; rfl
  · show (bif isBr e then [] else e :: opA w) = _; rw [h]; rfl
section S88za
variable {l : Launch} {X : Cx} {ρ : Rf} {U : Tx}
theorem m_qBracket (d : Nat) {σ : St} {out w v : List Nat} (hρ : RF ρ) (H : MPc σ out (w ++ v)) (hb : σ.1 326 104 = nI v.length) (hn : (w ++ v).length < 1700) (hw : okS w) :
    T l X (d + 1) 267 [.ref 326] 402 402 ρ σ (Rs (.int (brI w)) ρ σ) := by
  rw [List.length_append] at hn
  have loop : ∀ (w : List Nat), okS w → w.length + v.length < 1700 → PlW (σ.1 399) (w ++ v) → Ev l X (d + 1) 267 7 [.ref 326, .int (nI (w.length + v.length) - 1)] [] 402 402 402 ρ σ (Rs (.int (brI w)) ρ σ) := by
    intro w
    induction w with
    | nil =>
      intro _ _ _
      have hlt : nI (([] : List Nat).length + v.length) - 1 < nI v.length := by
        show nI (0 + v.length) - 1 < nI v.length
        rw [Nat.zero_add, Int32.lt_iff_toInt_lt, Int32.toInt_sub, nI_toInt (by omega)]
        have : (1 : Int32).toInt = 1 := rfl
        rw [this, Int.bmod_eq_of_le_mul_two (by omega) (by omega)]
        omega
      refine Ev_iload rfl rfl ?_
      refine Ev_aload rfl rfl rfl ?_
      refine Ev_getI rfl (by first | rfl | assumption) ?_
      refine Ev_norm hb ?_
      refine Ev_icmp_lt rfl (fun h12 => ?_) (fun h12 => absurd hlt h12)
      refine Ev_iload rfl rfl ?_
      refine Ev_aload rfl rfl rfl ?_
      refine Ev_getI rfl (by first | rfl | assumption) ?_
      refine Ev_norm hb ?_
      refine Ev_icmp_lt rfl (fun h38 => ?_) (fun h38 => absurd hlt h38)
      refine Ev_const rfl ?_
      exact Ev_ireturn rfl rfl rfl rfl ⟨rfl, rfl, rfl⟩
    | cons e w ih =>
      intro ho hl hp
      obtain ⟨he, ho⟩ := okS_c ho
      obtain ⟨g1, g2, g3, g4, g5, g6, _⟩ := ec_S e he
      rw [List.length_cons] at hl
      have hl2 : w.length + v.length = (w ++ v).length := by rw [List.length_append]
      have hge : ¬ nI (w.length + v.length) < nI v.length := nI_nlt (by omega) (by omega)
      rw [show (e :: w).length + v.length = w.length + v.length + 1 by rw [List.length_cons]; omega, pk_s1]
      have fin : isBr e = true → Ev l X (d + 1) 267 33 [.ref 326, .int (nI (w.length + v.length))] [] 402 402 402 ρ σ (Rs (.int (brI (e :: w))) ρ σ) := fun z => by
        have hbi : brI (e :: w) = nI (ec e) := by
          unfold brI
          rw [(brk_y z).1, g5 z, if_neg (by
            unfold isBr at z
            rw [Bool.and_eq_true, Nat.ble_eq] at z
            omega)]
        rw [hbi]
        refine Ev_iload rfl rfl ?_
        refine Ev_aload rfl rfl rfl ?_
        refine Ev_getI rfl (by first | rfl | assumption) ?_
        refine Ev_norm hb ?_
        refine Ev_icmp_lt rfl (fun h38 => absurd h38 hge) (fun h38 => ?_)
        refine Ev_aload rfl rfl rfl ?_
        refine Ev_getR rfl (by first | rfl | assumption) (hρ _ _ _ rfl) ?_
        refine Ev_iload rfl rfl ?_
        refine Ev_iald rfl (by first | rfl | assumption) (vp_in_nI (n := w.length + v.length) (show w.length + v.length < 1700 by omega) (by decide)) ?_
        refine Ev_norm (by rw [nI_clamp (by omega), hl2]; exact hp.1 : _ = nI (ec e)) ?_
        refine Ev_goto rfl ?_
        exact Ev_ireturn rfl rfl rfl rfl ⟨rfl, rfl, rfl⟩
      refine Ev_iload rfl rfl ?_
      refine Ev_aload rfl rfl rfl ?_
      refine Ev_getI rfl (by first | rfl | assumption) ?_
      refine Ev_norm hb ?_
      refine Ev_icmp_lt rfl (fun h12 => absurd h12 hge) (fun h12 => ?_)
      refine Ev_aload rfl rfl rfl ?_
      refine Ev_getR rfl (by first | rfl | assumption) (hρ _ _ _ rfl) ?_
      refine Ev_iload rfl rfl ?_
      refine Ev_iald rfl (by first | rfl | assumption) (vp_in_nI (n := w.length + v.length) (show w.length + v.length < 1700 by omega) (by decide)) ?_
      refine Ev_norm (by rw [nI_clamp (by omega), hl2]; exact hp.1 : _ = nI (ec e)) ?_
      refine Ev_callS rfl rfl rfl rfl (same_n 402) (m_qIsBracket _ g1) ?_
      rintro v21 ρ21 σ21 ⟨rfl, e21, g21⟩
      obtain rfl := e21.symm
      obtain rfl := g21.symm
      refine Ev_norm (by rw [g2] : _ = bI (isBr e)) ?_
      refine Ev_if_ne rfl (fun h24 => ?_) (fun h24 => ?_)
      · exact fin (rt_of h24)
      · refine Ev_iincE rfl rfl (show nI (w.length + v.length) + -1 = nI (w.length + v.length) - 1 from (Int32.sub_eq_add_neg _ _).symm) ?_
        refine Ev_goto rfl ?_
        have hz := ff_of (Decidable.not_not.mp h24)
        have := ih ho (by omega) hp.2
        unfold brI at this ⊢
        rw [(brk_n hz).1]
        exact this
  refine T_of rfl ?_
  refine Ev_aload rfl rfl rfl ?_
  refine Ev_getI rfl (by first | rfl | assumption) ?_
  refine Ev_norm (by rw [← List.length_append]; exact H.2.2.1 : _ = nI (w.length + v.length)) ?_
  refine Ev_const rfl ?_
  refine Ev_isub rfl ?_
  refine Ev_istore rfl ?_
  exact loop w hw hn H.2.2.2
theorem m_qDropsToBracket (d : Nat) {v : List Nat} (hρ : RF ρ) : ∀ (w out : List Nat) (σ : St), MPc σ out (w ++ v) → σ.1 326 104 = nI v.length → out.length + (w ++ v).length < 1700 → okS w →
    Ev l X (d + 2) 268 0 [.ref 326] [] 402 402 402 ρ σ (fun v' ρ' σ' => v' = none ∧ ρ' = ρ ∧ MPc σ' (out ++ opA w) (rsA w ++ v) ∧ MW σ σ') := by
  intro w
  induction w with
  | nil =>
    intro out σ H hb hn _
    refine Ev_aload rfl rfl rfl ?_
    refine Ev_getI rfl (by first | rfl | assumption) ?_
    refine Ev_norm (H.2.2.1 : _ = nI v.length) ?_
    refine Ev_aload rfl rfl rfl ?_
    refine Ev_getI rfl (by first | rfl | assumption) ?_
    refine Ev_norm hb ?_
    refine Ev_icmp_le rfl (fun h8 => ?_) (fun h8 => absurd (nI_le (Nat.le_refl _) (by simp only [List.nil_append] at hn ⊢; omega)) h8)
    exact Ev_return rfl rfl rfl ⟨rfl, rfl, by show MPc σ (out ++ []) ([] ++ v); rw [List.append_nil]; exact H, MF.rf _ _ _⟩
  | cons e w ih =>
    intro out σ H hb hn ho
    obtain ⟨he, ho⟩ := okS_c ho
    obtain ⟨g1, g2, g3, g4, g5, g6, _⟩ := ec_S e he
    have hl : (e :: w ++ v).length = (w ++ v).length + 1 := rfl
    have hlv : (w ++ v).length = w.length + v.length := List.length_append
    rw [hl] at hn
    refine Ev_aload rfl rfl rfl ?_
    refine Ev_getI rfl (by first | rfl | assumption) ?_
    refine Ev_norm H.2.2.1 ?_
    refine Ev_aload rfl rfl rfl ?_
    refine Ev_getI rfl (by first | rfl | assumption) ?_
    refine Ev_norm hb ?_
    refine Ev_icmp_le rfl (fun h8 => absurd ((nI_leI (by omega) (by omega)).mp h8) (by omega)) (fun h8 => ?_)
    refine Ev_aload rfl rfl rfl ?_
    refine Ev_getR rfl (by first | rfl | assumption) (hρ _ _ _ rfl) ?_
    refine Ev_aload rfl rfl rfl ?_
    refine Ev_getI rfl (by first | rfl | assumption) ?_
    refine Ev_norm (H.2.2.1 : _ = nI ((w ++ v).length + 1)) ?_
    refine Ev_const rfl ?_
    refine Ev_isub rfl ?_
    refine Ev_norm (pk_s1 (w ++ v).length) ?_
    refine Ev_iald rfl (by first | rfl | assumption) (vp_in_nI (n := (w ++ v).length) (show (w ++ v).length < 1700 by omega) (by decide)) ?_
    refine Ev_norm (by rw [nI_clamp (by omega)]; exact H.2.2.2.1 : _ = nI (ec e)) ?_
    refine Ev_callS rfl rfl rfl rfl (same_n 402) (m_qIsBracket _ g1) ?_
    rintro v22 ρ22 σ22 ⟨rfl, e22, g22⟩
    obtain rfl := e22.symm
    obtain rfl := g22.symm
    refine Ev_norm (by rw [g2] : _ = bI (isBr e)) ?_
    refine Ev_if_ne rfl (fun h25 => ?_) (fun h25 => ?_)
    · exact Ev_return rfl rfl rfl ⟨rfl, rfl, by rw [(brk_y (rt_of h25)).2.1, (brk_y (rt_of h25)).2.2, List.append_nil]; exact H, MF.rf _ _ _⟩
    · refine Ev_aload rfl rfl rfl ?_
      refine Ev_callV rfl rfl rfl rfl rfl (same_n 402) (m_qDrops _ (W := w ++ v) hρ H (by omega) (by omega) (g4 (ff_of (Decidable.not_not.mp h25)))) ?_
      rintro v29 ρ29 σ29 ⟨rfl, e29, s29, c29⟩
      obtain rfl := e29.symm
      refine Ev_goto rfl ?_
      have hz := ff_of (Decidable.not_not.mp h25)
      have := ih (out ++ [e]) σ29 s29 (by rw [c29.2.2 _ rfl]; exact hb) (by rw [List.length_append]; show out.length + 1 + _ < _; omega) ho
      rw [List.append_assoc] at this
      rw [(brk_n hz).2.1, (brk_n hz).2.2]
      exact this.mono (fun v' ρ' σ' h => ⟨h.1, h.2.1, h.2.2.1, c29.tr h.2.2.2⟩)
theorem cnt_p {e : Nat} {W : List Nat} (h : isOpn e = true) : cntO (e :: W) = cntO W + 1 := by show (bif isOpn e then cntO W + 1 else cntO W) = _; rw [h]; rfl
theorem cnt_n {e : Nat} {W : List Nat} (h : isOpn e = false) : cntO (e :: W) = cntO W := by show (bif isOpn e then cntO W + 1 else cntO W) = _; rw [h]; rfl
theorem MPc.mz0 {σ σ' : St} {out W : List Nat} (H : MPc σ out W) (hs : MF (fun _ => false) (fun j => Nat.beq j 103) σ σ') : MPc σ' out W := by
  obtain ⟨h1, h2, h3, h4⟩ := H
  exact ⟨by rw [hs.2.2 _ rfl]; exact h1, fun j hj => by rw [hs.1 398 (by decide) rfl]; exact h2 j hj, by rw [hs.2.2 _ rfl]; exact h3, by rw [hs.1 399 (by decide) rfl]; exact h4⟩
/-- the number of what is open, put anew -/
theorem op_put {σ : St} (x : Int32) : MF (fun _ => false) (fun j => Nat.beq j 103) σ (sI σ 326 (upd (σ.1 326) 103 x)) := MF.put x rfl
theorem op_z {σ σ' : St} (h : MF (fun _ => false) (fun j => Nat.beq j 103) σ σ') : MZ σ σ' := h.wk (fun _ _ => rfl) (fun j hj => by unfold fQ at hj; exact (Bool.or_eq_false_iff.mp (Bool.or_eq_false_iff.mp hj).1).2)
/-- how many codes there are has a bound, with a fault too -/
def CdB (σ : St) : Prop := ∃ n, n ≤ 1650 ∧ σ.1 326 100 = nI n
theorem CdB.of {σ σ' : St} (H : CdB σ) (h : σ'.1 326 100 = σ.1 326 100) : CdB σ' := by
  obtain ⟨n, h1, h2⟩ := H
  exact ⟨n, h1, by rw [h]; exact h2⟩
theorem MPc.cd {σ : St} {out W : List Nat} (H : MPc σ out W) (h : out.length ≤ 1650) : CdB σ := ⟨_, h, H.1⟩
/-- a state of the reading: where it stands, codes, pile with what lies below, how much is open -/
def MYs (σ : St) (U : Tx) (v : List Nat) (y : Ys) : Prop := MTt σ U y.1 ∧ σ.1 326 104 = nI v.length ∧ (isOk y.1 = true → MPq σ y.2.1 (y.2.2.1 ++ v) y.2.2.2 ∧ okS y.2.2.1 ∧ y.2.1.length + (y.2.2.1 ++ v).length ≤ rpos y.1) ∧ (isOk y.1 = false → CdB σ)
theorem okS.app {u w : List Nat} (h : okS (u ++ w)) : okS w := fun e he => h e (List.mem_append_right u he)
theorem m_qEndsPart (d : Nat) {v : List Nat} (hρ : RF ρ) (hT : TxW U) (hv : okT v) : ∀ (w out : List Nat) (o : Nat) (s : Rdg) (σ : St), MTt σ U s → σ.1 326 104 = nI v.length → (isOk s = true → MPq σ out (w ++ v) o ∧ okS w ∧ out.length + (w ++ v).length < 1700) →
    Ev l X (d + 2) 272 0 [.ref 326] [] 402 402 402 ρ σ (fun v' ρ' σ' => v' = none ∧ ρ' = ρ ∧ MTt σ' U s ∧ σ'.1 326 104 = nI v.length ∧ (isOk s = true → MPq σ' (qeY s out w o).2.1 ((qeY s out w o).2.2.1 ++ v) (qeY s out w o).2.2.2 ∧ okS (qeY s out w o).2.2.1 ∧ (qeY s out w o).2.1.length + ((qeY s out w o).2.2.1 ++ v).length = out.length + (w ++ v).length) ∧ MZ σ σ' ∧ (isOk s = false → σ'.1 326 100 = σ.1 326 100)) := by
  intro w
  induction w with
  | nil =>
    intro out o s σ H hb hp
    cases s with
    | inl e =>
      have g5 := H.2.2.2.2.1
      refine Ev_aload rfl rfl rfl ?_
      refine Ev_getI rfl (by first | rfl | assumption) ?_
      refine Ev_norm H.2.2.1 ?_
      refine Ev_if_ne rfl (fun h4 => ?_) (fun h4 => absurd (nI_ne0 g5.1 (by omega)) h4)
      exact Ev_return rfl rfl rfl ⟨rfl, rfl, H, hb, (fun z => by cases z), MF.rf _ _ _, fun _ => rfl⟩
    | inr p =>
      obtain ⟨hq, ho, hl⟩ := hp rfl
      have hl : out.length + v.length < 1700 := hl
      refine Ev_aload rfl rfl rfl ?_
      refine Ev_getI rfl (by first | rfl | assumption) ?_
      refine Ev_norm H.2.2.2.2.2.2.2.1 ?_
      refine Ev_if_ne rfl (fun h4 => absurd rfl h4) (fun h4 => ?_)
      refine Ev_aload rfl rfl rfl ?_
      refine Ev_getI rfl (by first | rfl | assumption) ?_
      refine Ev_norm (hq.1.2.2.1 : _ = nI v.length) ?_
      refine Ev_aload rfl rfl rfl ?_
      refine Ev_getI rfl (by first | rfl | assumption) ?_
      refine Ev_norm hb ?_
      refine Ev_icmp_le rfl (fun h15 => ?_) (fun h15 => absurd (nI_le (Nat.le_refl _) (by omega)) h15)
      exact Ev_return rfl rfl rfl ⟨rfl, rfl, H, hb, fun _ => ⟨hq, ho, rfl⟩, MF.rf _ _ _, fun z => by cases z⟩
  | cons e w ih =>
    intro out o s σ H hb hp
    cases s with
    | inl e =>
      have g5 := H.2.2.2.2.1
      refine Ev_aload rfl rfl rfl ?_
      refine Ev_getI rfl (by first | rfl | assumption) ?_
      refine Ev_norm H.2.2.1 ?_
      refine Ev_if_ne rfl (fun h4 => ?_) (fun h4 => absurd (nI_ne0 g5.1 (by omega)) h4)
      exact Ev_return rfl rfl rfl ⟨rfl, rfl, H, hb, (fun z => by cases z), MF.rf _ _ _, fun _ => rfl⟩
    | inr p =>
      obtain ⟨hq, ho, hl⟩ := hp rfl
      obtain ⟨he, how⟩ := okS_c ho
      obtain ⟨g1, g2, g3, g4, g5, g6, _⟩ := ec_S e he
      have hl2 : (e :: w ++ v).length = (w ++ v).length + 1 := rfl
      have hlv : (w ++ v).length = w.length + v.length := List.length_append
      rw [hl2] at hl
      have eY : qeY (.inr p) out (e :: w) o = if e = 34 ∨ e = 35 then qeY (.inr p) (out ++ [e]) w (o - 1) else (.inr p, out, e :: w, o) := by
        show (if (e = 34 ∨ e = 35) ∧ isOk (.inr p) = true then _ else _) = _
        by_cases hz : e = 34 ∨ e = 35
        · rw [if_pos ⟨hz, rfl⟩, if_pos hz]
        · rw [if_neg (fun z => hz z.1), if_neg hz]
      by_cases hz : e = 34 ∨ e = 35
      · have h60 := g3.mpr hz
        have hop : isOpn e = true := g6 (hz.elim Or.inl (fun z => Or.inr (Or.inl z)))
        have hnb : isBr e = false := by rcases hz with z | z <;> (rw [z]; rfl)
        obtain ⟨q1, q2, q3, q4⟩ := hq
        have q3 : cntO (e :: (w ++ v)) ≤ o := q3
        rw [cnt_p hop] at q3
        have eo : o = o - 1 + 1 := by omega
        rw [eY, if_pos hz]
        refine Ev_aload rfl rfl rfl ?_
        refine Ev_getI rfl (by first | rfl | assumption) ?_
        refine Ev_norm H.2.2.2.2.2.2.2.1 ?_
        refine Ev_if_ne rfl (fun h4 => absurd rfl h4) (fun h4 => ?_)
        refine Ev_aload rfl rfl rfl ?_
        refine Ev_getI rfl (by first | rfl | assumption) ?_
        refine Ev_norm (q1.2.2.1 : _ = nI ((w ++ v).length + 1)) ?_
        refine Ev_aload rfl rfl rfl ?_
        refine Ev_getI rfl (by first | rfl | assumption) ?_
        refine Ev_norm hb ?_
        refine Ev_icmp_le rfl (fun h15 => absurd ((nI_leI (by omega) (by omega)).mp h15) (by omega)) (fun h15 => ?_)
        refine Ev_aload rfl rfl rfl ?_
        refine Ev_getR rfl (by first | rfl | assumption) (hρ _ _ _ rfl) ?_
        refine Ev_aload rfl rfl rfl ?_
        refine Ev_getI rfl (by first | rfl | assumption) ?_
        refine Ev_norm (q1.2.2.1 : _ = nI ((w ++ v).length + 1)) ?_
        refine Ev_const rfl ?_
        refine Ev_isub rfl ?_
        refine Ev_norm (pk_s1 (w ++ v).length) ?_
        refine Ev_iald rfl (by first | rfl | assumption) (vp_in_nI (n := (w ++ v).length) (show (w ++ v).length < 1700 by omega) (by decide)) ?_
        refine Ev_norm (by rw [nI_clamp (by omega)]; exact q1.2.2.2.1 : _ = nI (ec e)) ?_
        refine Ev_const rfl ?_
        refine Ev_icmp_lt rfl (fun h31 => absurd h31 (nI_nlt (b := 60) h60 (by omega))) (fun h31 => ?_)
        refine Ev_aload rfl rfl rfl ?_
        refine Ev_dup rfl (fun _ q => nomatch q) ?_
        refine Ev_getI rfl (by first | rfl | assumption) ?_
        refine Ev_norm (by rw [q2, ← eo] : _ = nI (o - 1 + 1)) ?_
        refine Ev_const rfl ?_
        refine Ev_isub rfl ?_
        refine Ev_norm (pk_s1 (o - 1)) ?_
        refine Ev_putI rfl (by first | rfl | assumption) ⟨rfl, rfl⟩ rfl ?_
        refine Ev_aload rfl rfl rfl ?_
        refine Ev_callV rfl rfl rfl rfl rfl (same_n 402) (m_qDrops _ (W := w ++ v) hρ (q1.mz0 (op_put _)) (by omega) (by omega) (g4 hnb)) ?_
        rintro v45 ρ45 σ45 ⟨rfl, e45, s45, c45⟩
        obtain rfl := e45.symm
        refine Ev_goto rfl ?_
        have hmz := MF.tr (op_z (op_put (σ := σ) (nI (o - 1)))) c45.z
        have := ih (out ++ [e]) (o - 1) (.inr p) σ45 (H.mz hmz) (by rw [c45.2.2 _ rfl, sR_0, pk_un (by decide)]; exact hb) (fun _ => ⟨⟨s45, by rw [c45.2.2 _ rfl, sR_0, pk_us], by show cntO (w ++ v) ≤ o - 1; omega, by omega⟩, how, by rw [List.length_append]; show out.length + 1 + _ < _; omega⟩)
        exact this.mono (fun v' ρ' σ' h => ⟨h.1, h.2.1, h.2.2.1, h.2.2.2.1, fun z => ⟨(h.2.2.2.2.1 z).1, (h.2.2.2.2.1 z).2.1, by rw [(h.2.2.2.2.1 z).2.2, List.length_append, hl2]; show out.length + 1 + _ = _; omega⟩, hmz.tr h.2.2.2.2.2.1, fun z => by cases z⟩)
      · have h60 : ¬ 60 ≤ ec e := fun z => hz (g3.mp z)
        rw [eY, if_neg hz]
        refine Ev_aload rfl rfl rfl ?_
        refine Ev_getI rfl (by first | rfl | assumption) ?_
        refine Ev_norm H.2.2.2.2.2.2.2.1 ?_
        refine Ev_if_ne rfl (fun h4 => absurd rfl h4) (fun h4 => ?_)
        refine Ev_aload rfl rfl rfl ?_
        refine Ev_getI rfl (by first | rfl | assumption) ?_
        refine Ev_norm (hq.1.2.2.1 : _ = nI ((w ++ v).length + 1)) ?_
        refine Ev_aload rfl rfl rfl ?_
        refine Ev_getI rfl (by first | rfl | assumption) ?_
        refine Ev_norm hb ?_
        refine Ev_icmp_le rfl (fun h15 => absurd ((nI_leI (by omega) (by omega)).mp h15) (by omega)) (fun h15 => ?_)
        refine Ev_aload rfl rfl rfl ?_
        refine Ev_getR rfl (by first | rfl | assumption) (hρ _ _ _ rfl) ?_
        refine Ev_aload rfl rfl rfl ?_
        refine Ev_getI rfl (by first | rfl | assumption) ?_
        refine Ev_norm (hq.1.2.2.1 : _ = nI ((w ++ v).length + 1)) ?_
        refine Ev_const rfl ?_
        refine Ev_isub rfl ?_
        refine Ev_norm (pk_s1 (w ++ v).length) ?_
        refine Ev_iald rfl (by first | rfl | assumption) (vp_in_nI (n := (w ++ v).length) (show (w ++ v).length < 1700 by omega) (by decide)) ?_
        refine Ev_norm (by rw [nI_clamp (by omega)]; exact hq.1.2.2.2.1 : _ = nI (ec e)) ?_
        refine Ev_const rfl ?_
        refine Ev_icmp_lt rfl (fun h31 => ?_) (fun h31 => absurd (nI_lt (b := 60) (by omega) (by omega)) h31)
        exact Ev_return rfl rfl rfl ⟨rfl, rfl, H, hb, fun _ => ⟨hq, ho, rfl⟩, MF.rf _ _ _, fun z => by cases z⟩
end S88za
