/-! A formula read by the reference: what goes on behind a part. -/
theorem on_nil {v : List Nat} {c : Nat} (hv : okT v) (hc : c = 1 ∨ c = 2 ∨ c = 3 ∨ c = 4) : decide (([] ++ v : List Nat) ≠ [] ∧ ec (([] ++ v : List Nat).headD 0) = c) = false := by
  refine decide_eq_false (fun z => ?_)
  cases v with
  | nil => exact z.1 rfl
  | cons e v =>
    obtain ⟨_, _, _, _, _, _, _, _, g1, g2, g3, g4⟩ := ec_T e (okT_c hv).1
    have z2 : ec e = c := z.2
    rcases hc with q | q | q | q <;> (rw [q] at z2; contradiction)
theorem on_cons (e : Nat) (w v : List Nat) (c : Nat) : decide ((e :: w ++ v) ≠ [] ∧ ec ((e :: w ++ v).headD 0) = c) = decide (ec e = c) := by
  refine decide_eq_decide.mpr ⟨fun z => z.2, fun z => ⟨List.cons_ne_nil _ _, z⟩⟩
theorem ok_lt {w v : List Nat} (hw : okS w) (hv : okT v) : ∀ e, e ∈ w ++ v → ec e < 100 := fun e he => by
  rcases List.mem_append.mp he with z | z
  · exact (ec_S e (hw e z)).1
  · exact (ec_T e (hv e z)).1
theorem tk_y {p : Nat → Bool} {e : Nat} {w : List Nat} (h : p e = true) : tkW p (e :: w) = e :: tkW p w ∧ drW p (e :: w) = drW p w := by
  refine ⟨?_, ?_⟩
  · show (bif p e then e :: tkW p w else []) = _; rw [h]; rfl
  · show (bif p e then drW p w else e :: w) = _; rw [h]; rfl
theorem tk_n {p : Nat → Bool} {e : Nat} {w : List Nat} (h : p e = false) : tkW p (e :: w) = [] ∧ drW p (e :: w) = e :: w := by
  refine ⟨?_, ?_⟩
  · show (bif p e then e :: tkW p w else []) = _; rw [h]; rfl
  · show (bif p e then drW p w else e :: w) = _; rw [h]; rfl
theorem ec_op : ∀ e, e ∈ [34, 35, 36, 37, 38, 39, 1020, 1021, 1022, 1023, 1024] → (isMu e = (decide (ec e = 3) || decide (ec e = 4))) ∧ (isAr e = (decide (ec e = 3) || decide (ec e = 4) || decide (ec e = 1) || decide (ec e = 2))) ∧ (isAr e = true → ec e = mc e) ∧ (isMu e = true → ec e = mc e) := by decide
section S88zf
variable {l : Launch} {X : Cx} {ρ : Rf} {U : Tx}
theorem m_dropMu (d : Nat) {v : List Nat} (hρ : RF ρ) (hv : okT v) (n : Int32) {Q : Po} : ∀ (w out : List Nat) (σ : St), MPc σ out (w ++ v) → okS w → out.length + (w ++ v).length < 1700 →
    (∀ σ', MPc σ' (out ++ tkW isMu w) (drW isMu w ++ v) → MW σ σ' → Ev l X (d + 2) 281 185 [.ref 324, .int n] [] 400 400 400 ρ σ' Q) →
    Ev l X (d + 2) 281 162 [.ref 324, .int n] [] 400 400 400 ρ σ Q := by
  intro w
  induction w with
  | nil =>
    intro out σ H _ hn hQ
    have hl : out.length + v.length < 1700 := hn
    have H0 : MPc σ out v := H
    have hlt : ∀ e, e ∈ v → ec e < 100 := fun e he => (ec_T e (hv e he)).1
    refine Ev_aload rfl rfl rfl ?_
    refine Ev_const rfl ?_
    refine Ev_callV rfl rfl rfl rfl rfl (same_n 400) (m_qIsOn _ (W := [] ++ v) (c := 3) hρ H (by show v.length < _; omega) (by decide) hlt) ?_
    rintro v164 ρ164 σ164 ⟨rfl, e164, g164⟩
    obtain rfl := e164.symm
    obtain rfl := g164.symm
    refine Ev_norm (by rw [on_nil hv (by decide)] : _ = bI false) ?_
    refine Ev_if_ne rfl (fun h167 => absurd rfl h167) (fun h167 => ?_)
    refine Ev_aload rfl rfl rfl ?_
    refine Ev_const rfl ?_
    refine Ev_callV rfl rfl rfl rfl rfl (same_n 400) (m_qIsOn _ (W := [] ++ v) (c := 4) hρ H (by show v.length < _; omega) (by decide) hlt) ?_
    rintro v172 ρ172 σ172 ⟨rfl, e172, g172⟩
    obtain rfl := e172.symm
    obtain rfl := g172.symm
    refine Ev_norm (by rw [on_nil hv (by decide)] : _ = bI false) ?_
    refine Ev_if_eq rfl (fun h175 => ?_) (fun h175 => absurd rfl h175)
    exact hQ σ (by show MPc σ (out ++ []) ([] ++ v); rw [List.append_nil]; exact H) (MF.rf _ _ _)
  | cons e w ih =>
    intro out σ H ho hn hQ
    obtain ⟨he, how⟩ := okS_c ho
    obtain ⟨o1, o2, o3, o4⟩ := ec_op e he
    have hl2 : (e :: w ++ v).length = (w ++ v).length + 1 := rfl
    rw [hl2] at hn
    have hlt := ok_lt ho hv
    have drop : isMu e = true → Ev l X (d + 2) 281 178 [.ref 324, .int n] [] 400 400 400 ρ σ Q := fun z => by
      refine Ev_aload rfl rfl rfl ?_
      refine Ev_callV rfl rfl rfl rfl rfl (same_n 400) (m_qDrops _ (W := w ++ v) hρ H (by omega) (by omega) (o4 z)) ?_
      rintro v179 ρ179 σ179 ⟨rfl, e179, s179, c179⟩
      obtain rfl := e179.symm
      refine Ev_goto rfl ?_
      refine ih (out ++ [e]) σ179 s179 how (by rw [List.length_append]; show out.length + 1 + _ < _; omega) (fun σ' h1 h2 => hQ σ' ?_ (c179.tr h2))
      rw [(tk_y z).1, (tk_y z).2]
      rw [List.append_assoc] at h1
      exact h1
    refine Ev_aload rfl rfl rfl ?_
    refine Ev_const rfl ?_
    refine Ev_callV rfl rfl rfl rfl rfl (same_n 400) (m_qIsOn _ (W := e :: w ++ v) (c := 3) hρ H (by rw [hl2]; omega) (by decide) hlt) ?_
    rintro v164 ρ164 σ164 ⟨rfl, e164, g164⟩
    obtain rfl := e164.symm
    obtain rfl := g164.symm
    refine Ev_norm (by rw [on_cons] : _ = bI (decide (ec e = 3))) ?_
    refine Ev_if_ne rfl (fun h167 => ?_) (fun h167 => ?_)
    · exact drop (by rw [o1, rt_of h167]; rfl)
    · refine Ev_aload rfl rfl rfl ?_
      refine Ev_const rfl ?_
      refine Ev_callV rfl rfl rfl rfl rfl (same_n 400) (m_qIsOn _ (W := e :: w ++ v) (c := 4) hρ H (by rw [hl2]; omega) (by decide) hlt) ?_
      rintro v172 ρ172 σ172 ⟨rfl, e172, g172⟩
      obtain rfl := e172.symm
      obtain rfl := g172.symm
      refine Ev_norm (by rw [on_cons] : _ = bI (decide (ec e = 4))) ?_
      refine Ev_if_eq rfl (fun h175 => ?_) (fun h175 => ?_)
      · have z : isMu e = false := by rw [o1, ff_of (Decidable.not_not.mp h167), ff_of h175]; rfl
        exact hQ σ (by rw [(tk_n z).1, (tk_n z).2, List.append_nil]; exact H) (MF.rf _ _ _)
      · exact drop (by rw [o1, rt_of h175, Bool.or_true])
end S88zf
