/-! A formula read by the reference: brackets, ends of parts, squares. -/
theorem okS_c {e : Nat} {w : List Nat} (h : okS (e :: w)) : e ∈ [34, 35, 36, 37, 38, 39, 1020, 1021, 1022, 1023, 1024] ∧ okS w := ⟨h e List.mem_cons_self, fun x hx => h x (List.mem_cons_of_mem e hx)⟩
theorem okT_c {e : Nat} {w : List Nat} (h : okT (e :: w)) : e ∈ [33, 43, 44, 1025] ∧ okT w := ⟨h e List.mem_cons_self, fun x hx => h x (List.mem_cons_of_mem e hx)⟩
theorem MPc.pop {σ : St} {out w v : List Nat} (H : MPc σ out (w ++ v)) : PlW (σ.1 397) v := H.2.2.2.app
def brI (w : List Nat) : Int32 := if brk w = 0 then -1 else nI (brk w - 1000)
theorem brk_n {e : Nat} {w : List Nat} (h : isBr e = false) : brk (e :: w) = brk w ∧ rsA (e :: w) = rsA w ∧ opA (e :: w) = e :: opA w := by
  refine ⟨?_, ?_, ?_⟩
  · unfold brk; show (bif isBr e then e :: w else rsA w).headD 0 = _; rw [h]; rfl
  · show (bif isBr e then e :: w else rsA w) = _; rw [h]; rfl
  · show (bif isBr e then [] else e :: opA w) = _; rw [h]; rfl
theorem brk_y {e : Nat} {w : List Nat} (h : isBr e = true) : brk (e :: w) = e ∧ rsA (e :: w) = e :: w ∧ opA (e :: w) = [] := by
  refine ⟨?_, ?_, ?_⟩
  · unfold brk; show (bif isBr e then e :: w else rsA w).headD 0 = _; rw [h]; rfl
  · show (bif isBr e then e :: w else rsA w) = _; rw [h]; rfl
  · show (bif isBr e then [] else e :: opA w) = _; rw [h]; rfl
section S88za
variable {l : Launch} {X : Cx} {ρ : Rf} {U : Tx}
theorem m_qBracket (d : Nat) {σ : St} {out w v : List Nat} (hρ : RF ρ) (H : MPc σ out (w ++ v)) (hb : σ.1 324 104 = nI v.length) (hn : (w ++ v).length < 1700) (hw : okS w) :
    T l X (d + 1) 274 [.ref 324] 400 400 ρ σ (Rs (.int (brI w)) ρ σ) := by
  rw [List.length_append] at hn
  have loop : ∀ (w : List Nat), okS w → w.length + v.length < 1700 → PlW (σ.1 397) (w ++ v) → Ev l X (d + 1) 274 7 [.ref 324, .int (nI (w.length + v.length) - 1)] [] 400 400 400 ρ σ (Rs (.int (brI w)) ρ σ) := by
    intro w
    induction w with
    | nil =>
      intro _ _ _
      have hlt : nI (([] : List Nat).length + v.length) - 1 < nI v.length := by
        show nI (0 + v.length) - 1 < nI v.length
        rw [Nat.zero_add, Int32.lt_iff_toInt_lt, Int32.toInt_sub, nI_toInt (by omega)]
        have : (1 : Int32).toInt = 1 := rfl
        rw [this, Int.bmod_eq_of_le_mul_two (by omega) (by omega)]
        omega
      refine Ev_iload rfl rfl ?_
      refine Ev_aload rfl rfl rfl ?_
      refine Ev_getI rfl (by first | rfl | assumption) ?_
      refine Ev_norm hb ?_
      refine Ev_icmp_lt rfl (fun h12 => ?_) (fun h12 => absurd hlt h12)
      refine Ev_iload rfl rfl ?_
      refine Ev_aload rfl rfl rfl ?_
      refine Ev_getI rfl (by first | rfl | assumption) ?_
      refine Ev_norm hb ?_
      refine Ev_icmp_lt rfl (fun h38 => ?_) (fun h38 => absurd hlt h38)
      refine Ev_const rfl ?_
      exact Ev_ireturn rfl rfl rfl rfl ⟨rfl, rfl, rfl⟩
    | cons e w ih =>
      intro ho hl hp
      obtain ⟨he, ho⟩ := okS_c ho
      obtain ⟨g1, g2, g3, g4, g5, g6, _⟩ := ec_S e he
      rw [List.length_cons] at hl
      have hl2 : w.length + v.length = (w ++ v).length := by rw [List.length_append]
      have hge : ¬ nI (w.length + v.length) < nI v.length := nI_nlt (by omega) (by omega)
      rw [show (e :: w).length + v.length = w.length + v.length + 1 by rw [List.length_cons]; omega, pk_s1]
      have fin : isBr e = true → Ev l X (d + 1) 274 33 [.ref 324, .int (nI (w.length + v.length))] [] 400 400 400 ρ σ (Rs (.int (brI (e :: w))) ρ σ) := fun z => by
        have hbi : brI (e :: w) = nI (ec e) := by
          unfold brI
          rw [(brk_y z).1, g5 z, if_neg (by
            unfold isBr at z
            rw [Bool.and_eq_true, Nat.ble_eq] at z
            omega)]
        rw [hbi]
        refine Ev_iload rfl rfl ?_
        refine Ev_aload rfl rfl rfl ?_
        refine Ev_getI rfl (by first | rfl | assumption) ?_
        refine Ev_norm hb ?_
        refine Ev_icmp_lt rfl (fun h38 => absurd h38 hge) (fun h38 => ?_)
        refine Ev_aload rfl rfl rfl ?_
        refine Ev_getR rfl (by first | rfl | assumption) (hρ _ _ _ rfl) ?_
        refine Ev_iload rfl rfl ?_
        refine Ev_iald rfl (by first | rfl | assumption) (vp_in_nI (n := w.length + v.length) (show w.length + v.length < 1700 by omega) (by decide)) ?_
        refine Ev_norm (by rw [nI_clamp (by omega), hl2]; exact hp.1 : _ = nI (ec e)) ?_
        refine Ev_goto rfl ?_
        exact Ev_ireturn rfl rfl rfl rfl ⟨rfl, rfl, rfl⟩
      refine Ev_iload rfl rfl ?_
      refine Ev_aload rfl rfl rfl ?_
      refine Ev_getI rfl (by first | rfl | assumption) ?_
      refine Ev_norm hb ?_
      refine Ev_icmp_lt rfl (fun h12 => absurd h12 hge) (fun h12 => ?_)
      refine Ev_aload rfl rfl rfl ?_
      refine Ev_getR rfl (by first | rfl | assumption) (hρ _ _ _ rfl) ?_
      refine Ev_iload rfl rfl ?_
      refine Ev_iald rfl (by first | rfl | assumption) (vp_in_nI (n := w.length + v.length) (show w.length + v.length < 1700 by omega) (by decide)) ?_
      refine Ev_norm (by rw [nI_clamp (by omega), hl2]; exact hp.1 : _ = nI (ec e)) ?_
      refine Ev_callS rfl rfl rfl rfl (same_n 400) (m_qIsBracket _ g1) ?_
      rintro v21 ρ21 σ21 ⟨rfl, e21, g21⟩
      obtain rfl := e21.symm
      obtain rfl := g21.symm
      refine Ev_norm (by rw [g2] : _ = bI (isBr e)) ?_
      refine Ev_if_ne rfl (fun h24 => ?_) (fun h24 => ?_)
      · exact fin (rt_of h24)
      · refine Ev_iinc rfl rfl ?_
        refine Ev_goto rfl ?_
        have hz := ff_of (Decidable.not_not.mp h24)
        have := ih ho (by omega) hp.2
        unfold brI at this ⊢
        rw [(brk_n hz).1]
        exact this
  refine T_of rfl ?_
  refine Ev_aload rfl rfl rfl ?_
  refine Ev_getI rfl (by first | rfl | assumption) ?_
  refine Ev_norm (by rw [← List.length_append]; exact H.2.2.1 : _ = nI (w.length + v.length)) ?_
  refine Ev_const rfl ?_
  refine Ev_isub rfl ?_
  refine Ev_istore rfl ?_
  exact loop w hw hn H.2.2.2
theorem m_qDropsToBracket (d : Nat) {v : List Nat} (hρ : RF ρ) : ∀ (w out : List Nat) (σ : St), MPc σ out (w ++ v) → σ.1 324 104 = nI v.length → out.length + (w ++ v).length < 1700 → okS w →
    Ev l X (d + 2) 275 0 [.ref 324] [] 400 400 400 ρ σ (fun v' ρ' σ' => v' = none ∧ ρ' = ρ ∧ MPc σ' (out ++ opA w) (rsA w ++ v) ∧ MW σ σ') := by
  intro w
  induction w with
  | nil =>
    intro out σ H hb hn _
    refine Ev_aload rfl rfl rfl ?_
    refine Ev_getI rfl (by first | rfl | assumption) ?_
    refine Ev_norm H.2.2.1 ?_
    refine Ev_aload rfl rfl rfl ?_
    refine Ev_getI rfl (by first | rfl | assumption) ?_
    refine Ev_norm hb ?_
    refine Ev_icmp_le rfl (fun h8 => ?_) (fun h8 => absurd (nI_le (Nat.le_refl _) (by rw [List.nil_append] at hn; omega)) h8)
    exact Ev_return rfl rfl rfl ⟨rfl, rfl, by show MPc σ (out ++ []) ([] ++ v); rw [List.append_nil]; exact H, MF.rf _ _ _⟩
  | cons e w ih =>
    intro out σ H hb hn ho
    obtain ⟨he, ho⟩ := okS_c ho
    obtain ⟨g1, g2, g3, g4, g5, g6, _⟩ := ec_S e he
    have hl : (e :: w ++ v).length = (w ++ v).length + 1 := rfl
    have hlv : (w ++ v).length = w.length + v.length := List.length_append
    rw [hl] at hn
    refine Ev_aload rfl rfl rfl ?_
    refine Ev_getI rfl (by first | rfl | assumption) ?_
    refine Ev_norm H.2.2.1 ?_
    refine Ev_aload rfl rfl rfl ?_
    refine Ev_getI rfl (by first | rfl | assumption) ?_
    refine Ev_norm hb ?_
    refine Ev_icmp_le rfl (fun h8 => absurd ((nI_leI (by omega) (by omega)).mp h8) (by omega)) (fun h8 => ?_)
    refine Ev_aload rfl rfl rfl ?_
    refine Ev_getR rfl (by first | rfl | assumption) (hρ _ _ _ rfl) ?_
    refine Ev_aload rfl rfl rfl ?_
    refine Ev_getI rfl (by first | rfl | assumption) ?_
    refine Ev_norm (H.2.2.1 : _ = nI ((w ++ v).length + 1)) ?_
    refine Ev_const rfl ?_
    refine Ev_isub rfl ?_
    refine Ev_norm (pk_s1 (w ++ v).length) ?_
    refine Ev_iald rfl (by first | rfl | assumption) (vp_in_nI (n := (w ++ v).length) (show (w ++ v).length < 1700 by omega) (by decide)) ?_
    refine Ev_norm (by rw [nI_clamp (by omega)]; exact H.2.2.2.1 : _ = nI (ec e)) ?_
    refine Ev_callS rfl rfl rfl rfl (same_n 400) (m_qIsBracket _ g1) ?_
    rintro v22 ρ22 σ22 ⟨rfl, e22, g22⟩
    obtain rfl := e22.symm
    obtain rfl := g22.symm
    refine Ev_norm (by rw [g2] : _ = bI (isBr e)) ?_
    refine Ev_if_ne rfl (fun h25 => ?_) (fun h25 => ?_)
    · exact Ev_return rfl rfl rfl ⟨rfl, rfl, by rw [(brk_y (rt_of h25)).2.1, (brk_y (rt_of h25)).2.2, List.append_nil]; exact H, MF.rf _ _ _⟩
    · refine Ev_aload rfl rfl rfl ?_
      refine Ev_callV rfl rfl rfl rfl rfl (same_n 400) (m_qDrops _ hρ H (by omega) (by omega) (g4 (ff_of (Decidable.not_not.mp h25)))) ?_
      rintro v29 ρ29 σ29 ⟨rfl, e29, s29, c29⟩
      obtain rfl := e29.symm
      refine Ev_goto rfl ?_
      have hz := ff_of (Decidable.not_not.mp h25)
      have := ih (out ++ [e]) σ29 s29 (by rw [c29.2.2 _ rfl]; exact hb) (by rw [List.length_append]; show out.length + 1 + _ < _; omega) ho
      rw [List.append_assoc] at this
      rw [(brk_n hz).2.1, (brk_n hz).2.2]
      exact this.mono (fun v' ρ' σ' h => ⟨h.1, h.2.1, h.2.2.1, c29.tr h.2.2.2⟩)
end S88za
