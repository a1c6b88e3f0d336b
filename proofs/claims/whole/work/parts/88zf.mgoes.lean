/-! A formula read by the reference: what goes on behind a part. -/
theorem on_nil {v : List Nat} {c : Nat} (hv : okT v) (hc : c = 1 ∨ c = 2 ∨ c = 3 ∨ c = 4) : decide (([] ++ v : List Nat) ≠ [] ∧ ec (([] ++ v : List Nat).headD 0) = c) = false := by
  refine decide_eq_false (fun z => ?_)
  cases v with
  | nil => exact z.1 rfl
  | cons e v =>
    obtain ⟨_, _, _, _, _, _, _, _, g1, g2, g3, g4⟩ := ec_T e (okT_c hv).1
    have z2 : ec e = c := z.2
    rcases hc with q | q | q | q <;> (rw [q] at z2; contradiction)
theorem on_cons (e : Nat) (w v : List Nat) (c : Nat) : decide ((e :: w ++ v) ≠ [] ∧ ec ((e :: w ++ v).headD 0) = c) = decide (ec e = c) := by
  refine decide_eq_decide.mpr ⟨fun z => z.2, fun z => ⟨List.cons_ne_nil _ _, z⟩⟩
theorem ok_lt {w v : List Nat} (hw : okS w) (hv : okT v) : ∀ e, e ∈ w ++ v → ec e < 100 := fun e he => by
  rcases List.mem_append.mp he with z | z
  · exact (ec_S e (hw e z)).1
  · exact (ec_T e (hv e z)).1
theorem tk_y {p : Nat → Bool} {e : Nat} {w : List Nat} (h : p e = true) : tkW p (e :: w) = e :: tkW p w ∧ drW p (e :: w) = drW p w := by
  refine ⟨?_, ?_⟩
  · show (bif p e then e :: tkW p w else []) = _; rw [h]; rfl
  · show (bif p e then drW p w else e :: w) = _; rw [h]; rfl
theorem tk_n {p : Nat → Bool} {e : Nat} {w : List Nat} (h : p e = false) : tkW p (e :: w) = [] ∧ drW p (e :: w) = e :: w := by
  refine ⟨?_, ?_⟩
  · show (bif p e then e :: tkW p w else []) = _; rw [h]; rfl
  · show (bif p e then drW p w else e :: w) = _; rw [h]; rfl
theorem ec_op : ∀ e, e ∈ [34, 35, 36, 37, 38, 39, 1020, 1021, 1022, 1023, 1024] → (isMu e = (decide (ec e = 3) || decide (ec e = 4))) ∧ (isAr e = (decide (ec e = 3) || decide (ec e = 4) || decide (ec e = 1) || decide (ec e = 2))) ∧ (isAr e = true → ec e = mc e) ∧ (isMu e = true → ec e = mc e) := by decide
section S88zf
variable {l : Launch} {X : Cx} {ρ : Rf} {U : Tx}
theorem m_dropMu (d : Nat) {v : List Nat} (hρ : RF ρ) (hv : okT v) (n : Int32) {Q : Po} : ∀ (w out : List Nat) (σ : St), MPc σ out (w ++ v) → okS w → out.length + (w ++ v).length < 1700 →
    (∀ σ', MPc σ' (out ++ tkW isMu w) (drW isMu w ++ v) → MW σ σ' → Ev l X (d + 2) 274 185 [.ref 326, .int n] [] 402 402 402 ρ σ' Q) →
    Ev l X (d + 2) 274 162 [.ref 326, .int n] [] 402 402 402 ρ σ Q := by
  intro w
  induction w with
  | nil =>
    intro out σ H _ hn hQ
    have hl : out.length + v.length < 1700 := hn
    have H0 : MPc σ out v := H
    have hlt : ∀ e, e ∈ v → ec e < 100 := fun e he => (ec_T e (hv e he)).1
    refine Ev_aload rfl rfl rfl ?_
    refine Ev_const rfl ?_
    refine Ev_callV rfl rfl rfl rfl rfl (same_n 402) (m_qIsOn _ (W := [] ++ v) (c := 3) hρ H (by show v.length < _; omega) (by decide) hlt) ?_
    rintro v164 ρ164 σ164 ⟨rfl, e164, g164⟩
    obtain rfl := e164.symm
    obtain rfl := g164.symm
    refine Ev_norm (by rw [on_nil hv (by decide)] : _ = bI false) ?_
    refine Ev_if_ne rfl (fun h167 => absurd rfl h167) (fun h167 => ?_)
    refine Ev_aload rfl rfl rfl ?_
    refine Ev_const rfl ?_
    refine Ev_callV rfl rfl rfl rfl rfl (same_n 402) (m_qIsOn _ (W := [] ++ v) (c := 4) hρ H (by show v.length < _; omega) (by decide) hlt) ?_
    rintro v172 ρ172 σ172 ⟨rfl, e172, g172⟩
    obtain rfl := e172.symm
    obtain rfl := g172.symm
    refine Ev_norm (by rw [on_nil hv (by decide)] : _ = bI false) ?_
    refine Ev_if_eq rfl (fun h175 => ?_) (fun h175 => absurd rfl h175)
    exact hQ σ (by show MPc σ (out ++ []) ([] ++ v); rw [List.append_nil]; exact H) (MF.rf _ _ _)
  | cons e w ih =>
    intro out σ H ho hn hQ
    obtain ⟨he, how⟩ := okS_c ho
    obtain ⟨o1, o2, o3, o4⟩ := ec_op e he
    have hl2 : (e :: w ++ v).length = (w ++ v).length + 1 := rfl
    rw [hl2] at hn
    have hlt := ok_lt ho hv
    have drop : isMu e = true → Ev l X (d + 2) 274 178 [.ref 326, .int n] [] 402 402 402 ρ σ Q := fun z => by
      refine Ev_aload rfl rfl rfl ?_
      refine Ev_callV rfl rfl rfl rfl rfl (same_n 402) (m_qDrops _ (W := w ++ v) hρ H (by omega) (by omega) (o4 z)) ?_
      rintro v179 ρ179 σ179 ⟨rfl, e179, s179, c179⟩
      obtain rfl := e179.symm
      refine Ev_goto rfl ?_
      refine ih (out ++ [e]) σ179 s179 how (by rw [List.length_append]; show out.length + 1 + _ < _; omega) (fun σ' h1 h2 => hQ σ' ?_ (c179.tr h2))
      rw [(tk_y z).1, (tk_y z).2]
      rw [List.append_assoc] at h1
      exact h1
    refine Ev_aload rfl rfl rfl ?_
    refine Ev_const rfl ?_
    refine Ev_callV rfl rfl rfl rfl rfl (same_n 402) (m_qIsOn _ (W := e :: w ++ v) (c := 3) hρ H (by rw [hl2]; omega) (by decide) hlt) ?_
    rintro v164 ρ164 σ164 ⟨rfl, e164, g164⟩
    obtain rfl := e164.symm
    obtain rfl := g164.symm
    refine Ev_norm (by rw [on_cons] : _ = bI (decide (ec e = 3))) ?_
    refine Ev_if_ne rfl (fun h167 => ?_) (fun h167 => ?_)
    · exact drop (by rw [o1, rt_of h167]; rfl)
    · refine Ev_aload rfl rfl rfl ?_
      refine Ev_const rfl ?_
      refine Ev_callV rfl rfl rfl rfl rfl (same_n 402) (m_qIsOn _ (W := e :: w ++ v) (c := 4) hρ H (by rw [hl2]; omega) (by decide) hlt) ?_
      rintro v172 ρ172 σ172 ⟨rfl, e172, g172⟩
      obtain rfl := e172.symm
      obtain rfl := g172.symm
      refine Ev_norm (by rw [on_cons] : _ = bI (decide (ec e = 4))) ?_
      refine Ev_if_eq rfl (fun h175 => ?_) (fun h175 => ?_)
      · have z : isMu e = false := by rw [o1, ff_of (Decidable.not_not.mp h167), ff_of h175]; rfl
        exact hQ σ (by rw [(tk_n z).1, (tk_n z).2, List.append_nil]; exact H) (MF.rf _ _ _)
      · exact drop (by rw [o1, rt_of h175, Bool.or_true])
theorem m_dropAr (d : Nat) {v : List Nat} (hρ : RF ρ) (hv : okT v) (n : Int32) {Q : Po} : ∀ (w out : List Nat) (σ : St), MPc σ out (w ++ v) → okS w → out.length + (w ++ v).length < 1700 →
    (∀ σ', MPc σ' (out ++ tkW isAr w) (drW isAr w ++ v) → MW σ σ' → Ev l X (d + 2) 274 286 [.ref 326, .int n] [] 402 402 402 ρ σ' Q) →
    Ev l X (d + 2) 274 247 [.ref 326, .int n] [] 402 402 402 ρ σ Q := by
  intro w
  induction w with
  | nil =>
    intro out σ H _ hn hQ
    have hl : out.length + v.length < 1700 := hn
    have hlt : ∀ e, e ∈ v → ec e < 100 := fun e he => (ec_T e (hv e he)).1
    refine Ev_aload rfl rfl rfl ?_
    refine Ev_const rfl ?_
    refine Ev_callV rfl rfl rfl rfl rfl (same_n 402) (m_qIsOn _ (W := [] ++ v) (c := 3) hρ H (by show v.length < _; omega) (by decide) hlt) ?_
    rintro v249 ρ249 σ249 ⟨rfl, e249, g249⟩
    obtain rfl := e249.symm
    obtain rfl := g249.symm
    refine Ev_norm (by rw [on_nil hv (by decide)] : _ = bI false) ?_
    refine Ev_if_ne rfl (fun h252 => absurd rfl h252) (fun h252 => ?_)
    refine Ev_aload rfl rfl rfl ?_
    refine Ev_const rfl ?_
    refine Ev_callV rfl rfl rfl rfl rfl (same_n 402) (m_qIsOn _ (W := [] ++ v) (c := 4) hρ H (by show v.length < _; omega) (by decide) hlt) ?_
    rintro v257 ρ257 σ257 ⟨rfl, e257, g257⟩
    obtain rfl := e257.symm
    obtain rfl := g257.symm
    refine Ev_norm (by rw [on_nil hv (by decide)] : _ = bI false) ?_
    refine Ev_if_ne rfl (fun h260 => absurd rfl h260) (fun h260 => ?_)
    refine Ev_aload rfl rfl rfl ?_
    refine Ev_const rfl ?_
    refine Ev_callV rfl rfl rfl rfl rfl (same_n 402) (m_qIsOn _ (W := [] ++ v) (c := 1) hρ H (by show v.length < _; omega) (by decide) hlt) ?_
    rintro v265 ρ265 σ265 ⟨rfl, e265, g265⟩
    obtain rfl := e265.symm
    obtain rfl := g265.symm
    refine Ev_norm (by rw [on_nil hv (by decide)] : _ = bI false) ?_
    refine Ev_if_ne rfl (fun h268 => absurd rfl h268) (fun h268 => ?_)
    refine Ev_aload rfl rfl rfl ?_
    refine Ev_const rfl ?_
    refine Ev_callV rfl rfl rfl rfl rfl (same_n 402) (m_qIsOn _ (W := [] ++ v) (c := 2) hρ H (by show v.length < _; omega) (by decide) hlt) ?_
    rintro v273 ρ273 σ273 ⟨rfl, e273, g273⟩
    obtain rfl := e273.symm
    obtain rfl := g273.symm
    refine Ev_norm (by rw [on_nil hv (by decide)] : _ = bI false) ?_
    refine Ev_if_eq rfl (fun h276 => ?_) (fun h276 => absurd rfl h276)
    exact hQ σ (by show MPc σ (out ++ []) ([] ++ v); rw [List.append_nil]; exact H) (MF.rf _ _ _)
  | cons e w ih =>
    intro out σ H ho hn hQ
    obtain ⟨he, how⟩ := okS_c ho
    obtain ⟨o1, o2, o3, o4⟩ := ec_op e he
    have hl2 : (e :: w ++ v).length = (w ++ v).length + 1 := rfl
    rw [hl2] at hn
    have hlt := ok_lt ho hv
    have drop : isAr e = true → Ev l X (d + 2) 274 279 [.ref 326, .int n] [] 402 402 402 ρ σ Q := fun z => by
      refine Ev_aload rfl rfl rfl ?_
      refine Ev_callV rfl rfl rfl rfl rfl (same_n 402) (m_qDrops _ (W := w ++ v) hρ H (by omega) (by omega) (o3 z)) ?_
      rintro v280 ρ280 σ280 ⟨rfl, e280, s280, c280⟩
      obtain rfl := e280.symm
      refine Ev_goto rfl ?_
      refine ih (out ++ [e]) σ280 s280 how (by rw [List.length_append]; show out.length + 1 + _ < _; omega) (fun σ' h1 h2 => hQ σ' ?_ (c280.tr h2))
      rw [(tk_y z).1, (tk_y z).2]
      rw [List.append_assoc] at h1
      exact h1
    refine Ev_aload rfl rfl rfl ?_
    refine Ev_const rfl ?_
    refine Ev_callV rfl rfl rfl rfl rfl (same_n 402) (m_qIsOn _ (W := e :: w ++ v) (c := 3) hρ H (by rw [hl2]; omega) (by decide) hlt) ?_
    rintro v249 ρ249 σ249 ⟨rfl, e249, g249⟩
    obtain rfl := e249.symm
    obtain rfl := g249.symm
    refine Ev_norm (by rw [on_cons] : _ = bI (decide (ec e = 3))) ?_
    refine Ev_if_ne rfl (fun h252 => ?_) (fun h252 => ?_)
    · exact drop (by rw [o2, rt_of h252]; rfl)
    · refine Ev_aload rfl rfl rfl ?_
      refine Ev_const rfl ?_
      refine Ev_callV rfl rfl rfl rfl rfl (same_n 402) (m_qIsOn _ (W := e :: w ++ v) (c := 4) hρ H (by rw [hl2]; omega) (by decide) hlt) ?_
      rintro v257 ρ257 σ257 ⟨rfl, e257, g257⟩
      obtain rfl := e257.symm
      obtain rfl := g257.symm
      refine Ev_norm (by rw [on_cons] : _ = bI (decide (ec e = 4))) ?_
      refine Ev_if_ne rfl (fun h260 => ?_) (fun h260 => ?_)
      · exact drop (by rw [o2, rt_of h260]; simp)
      · refine Ev_aload rfl rfl rfl ?_
        refine Ev_const rfl ?_
        refine Ev_callV rfl rfl rfl rfl rfl (same_n 402) (m_qIsOn _ (W := e :: w ++ v) (c := 1) hρ H (by rw [hl2]; omega) (by decide) hlt) ?_
        rintro v265 ρ265 σ265 ⟨rfl, e265, g265⟩
        obtain rfl := e265.symm
        obtain rfl := g265.symm
        refine Ev_norm (by rw [on_cons] : _ = bI (decide (ec e = 1))) ?_
        refine Ev_if_ne rfl (fun h268 => ?_) (fun h268 => ?_)
        · exact drop (by rw [o2, rt_of h268]; simp)
        · refine Ev_aload rfl rfl rfl ?_
          refine Ev_const rfl ?_
          refine Ev_callV rfl rfl rfl rfl rfl (same_n 402) (m_qIsOn _ (W := e :: w ++ v) (c := 2) hρ H (by rw [hl2]; omega) (by decide) hlt) ?_
          rintro v273 ρ273 σ273 ⟨rfl, e273, g273⟩
          obtain rfl := e273.symm
          obtain rfl := g273.symm
          refine Ev_norm (by rw [on_cons] : _ = bI (decide (ec e = 2))) ?_
          refine Ev_if_eq rfl (fun h276 => ?_) (fun h276 => ?_)
          · have z : isAr e = false := by rw [o2, ff_of (Decidable.not_not.mp h252), ff_of (Decidable.not_not.mp h260), ff_of (Decidable.not_not.mp h268), ff_of h276]; rfl
            exact hQ σ (by rw [(tk_n z).1, (tk_n z).2, List.append_nil]; exact H) (MF.rf _ _ _)
          · exact drop (by rw [o2, rt_of h276, Bool.or_true])
theorem push_pc {σ : St} {out W : List Nat} {t : Nat} {x : Int32} (H : MPc σ out W) (hx : x = nI (ec t)) : MPc (sI (sI σ 399 (upd (σ.1 399) W.length x)) 326 (upd ((sI σ 399 (upd (σ.1 399) W.length x)).1 326) 102 (nI (W.length + 1)))) out (t :: W) ∧ MW σ (sI (sI σ 399 (upd (σ.1 399) W.length x)) 326 (upd ((sI σ 399 (upd (σ.1 399) W.length x)).1 326) 102 (nI (W.length + 1)))) := by
  subst hx
  obtain ⟨g1, g2, g3, g4⟩ := H
  refine ⟨⟨?_, ?_, ?_, ?_⟩, (MF.cell _ (by decide) rfl).tr (MF.put _ rfl)⟩
  · rw [sR_0, pk_un (by decide), sR_1 _ _ (by decide)]; exact g1
  · rw [sR_1 _ _ (by decide), sR_1 _ _ (by decide)]; exact g2
  · rw [sR_0, pk_us]; rfl
  · rw [sR_1 _ _ (by decide), sR_0]; exact ⟨pk_us, g4.up (Nat.le_refl _)⟩
theorem m_pushMu (d : Nat) {σ : St} {out W : List Nat} {t : Nat} {x : Int32} (hρ : RF ρ) (H : MPc σ out W) (hw : W.length < 1700) (hx : x = nI (ec t)) :
    Ev l X (d + 2) 274 185 [.ref 326, .int x] [] 402 402 402 ρ σ (fun v' ρ' σ' => v' = some (.int 1) ∧ ρ' = ρ ∧ MPc σ' out (t :: W) ∧ MW σ σ') := by
  have hp := push_pc H hx
  refine Ev_aload rfl rfl rfl ?_
  refine Ev_getR rfl (by first | rfl | assumption) (hρ _ _ _ rfl) ?_
  refine Ev_aload rfl rfl rfl ?_
  refine Ev_getI rfl (by first | rfl | assumption) ?_
  refine Ev_norm H.2.2.1 ?_
  refine Ev_iload rfl rfl ?_
  refine Ev_iast rfl (by first | rfl | assumption) (vp_in_nI (n := W.length) (show W.length < 1700 from hw) (by decide)) ?_
  refine Ev_aload rfl rfl rfl ?_
  refine Ev_dup rfl (fun _ q => nomatch q) ?_
  refine Ev_getI rfl (by first | rfl | assumption) ?_
  refine Ev_norm (by rw [sR_1 _ _ (by decide)]; exact H.2.2.1 : _ = nI W.length) ?_
  refine Ev_const rfl ?_
  refine Ev_iadd rfl ?_
  refine Ev_norm (nI_1 W.length) ?_
  refine Ev_putI rfl (by first | rfl | assumption) ⟨rfl, rfl⟩ rfl ?_
  refine Ev_const rfl ?_
  exact Ev_ireturn rfl rfl (narZ true) rfl ⟨rfl, rfl, by rw [nI_clamp (by omega)]; exact hp⟩
theorem m_pushAr (d : Nat) {σ : St} {out W : List Nat} {t : Nat} {x : Int32} (hρ : RF ρ) (H : MPc σ out W) (hw : W.length < 1700) (hx : x = nI (ec t)) :
    Ev l X (d + 2) 274 286 [.ref 326, .int x] [] 402 402 402 ρ σ (fun v' ρ' σ' => v' = some (.int 1) ∧ ρ' = ρ ∧ MPc σ' out (t :: W) ∧ MW σ σ') := by
  have hp := push_pc H hx
  refine Ev_aload rfl rfl rfl ?_
  refine Ev_getR rfl (by first | rfl | assumption) (hρ _ _ _ rfl) ?_
  refine Ev_aload rfl rfl rfl ?_
  refine Ev_getI rfl (by first | rfl | assumption) ?_
  refine Ev_norm H.2.2.1 ?_
  refine Ev_iload rfl rfl ?_
  refine Ev_iast rfl (by first | rfl | assumption) (vp_in_nI (n := W.length) (show W.length < 1700 from hw) (by decide)) ?_
  refine Ev_aload rfl rfl rfl ?_
  refine Ev_dup rfl (fun _ q => nomatch q) ?_
  refine Ev_getI rfl (by first | rfl | assumption) ?_
  refine Ev_norm (by rw [sR_1 _ _ (by decide)]; exact H.2.2.1 : _ = nI W.length) ?_
  refine Ev_const rfl ?_
  refine Ev_iadd rfl ?_
  refine Ev_norm (nI_1 W.length) ?_
  refine Ev_putI rfl (by first | rfl | assumption) ⟨rfl, rfl⟩ rfl ?_
  refine Ev_const rfl ?_
  exact Ev_ireturn rfl rfl (narZ true) rfl ⟨rfl, rfl, by rw [nI_clamp (by omega)]; exact hp⟩
end S88zf
