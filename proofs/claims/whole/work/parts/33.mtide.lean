/-! The reference's tide. -/
theorem evs_ok {see : Nat → Int} {k : Nat} (hB : ∀ s, s < 9 → sOk k s = true → Bd (see s)) (hB2 : k = 4 → ∀ s, 10 ≤ s → s < 18 → Bd (see s)) : ∀ (cs : List Nat) (ts tf : List Bool) (st : List Int), wty k cs ts = some tf → OkS st ts → OkS (evs see cs st) tf := by
  intro cs
  induction cs with
  | nil => intro ts tf st h hs; cases h; exact hs
  | cons t cs ih =>
    intro ts tf st h hs
    unfold wty at h
    cases hw : wt1 k t ts with
    | none => rw [hw] at h; cases h
    | some r =>
      rw [hw] at h
      exact ih r tf _ h (stp_ok hw hs hB hB2)
theorem evF_ok {see : Nat → Int} {k : Nat} {cs : List Nat} {b : Bool} (h : wty k cs [] = some [b]) (hB : ∀ s, s < 9 → sOk k s = true → Bd (see s)) (hB2 : k = 4 → ∀ s, 10 ≤ s → s < 18 → Bd (see s)) : Bd (evF see cs) ∧ (b = true → evF see cs = 0 ∨ evF see cs = 1) := by
  have := evs_ok hB hB2 cs [] [b] [] h trivial
  unfold evF
  generalize evs see cs [] = st at this
  match st, this with
  | [v], h => exact h.1
  | [], h => exact h.elim
  | _ :: _ :: _, h => exact h.2.elim
theorem Bd_Bl {z : Int} (h : Bd z) : Bl z := ⟨by have := h.1; omega, by have := h.2; omega⟩
/-- the tide is laid, nothing else is changed but what asking leaves -/
def MTd (σ σ' : St) (t : Nat) : Prop := (∀ q, q ≠ 326 → σ'.1 q = σ.1 q) ∧ (∀ q, q ≠ 400 → σ'.2 q = σ.2 q) ∧ (∀ j, fS j = false → j ≠ 58 → σ'.1 326 j = σ.1 326 j) ∧ σ'.1 326 58 = nI t
section S33
variable {l : Launch} {X : Cx} {ρ : Rf} {σ : St} {B : Bh} {S : Str} {W : Nat → Nat}
theorem MTd_put {σ σ' : St} {t : Nat} (h : MSc σ σ') : MTd σ (sI σ' 326 (upd (σ'.1 326) 58 (nI t))) t := by
  refine ⟨fun q hq => by rw [sR_1 _ _ hq]; exact h.1 q hq, fun q hq => h.2.1 q hq, fun j hj hj2 => by rw [sR_0, pk_un hj2]; exact h.2.2 j hj, by rw [sR_0, pk_us]⟩
theorem m_laysTide (d : Nat) {h : Nat} (hρ : RF ρ) (hR : MRd σ B S W h) (hF : MFrm σ B) (hW : WfN B) (hWt : WfT B) (hWf : WfF B) (hbd : ∀ b i, S b i ≤ 99) (hWb : ∀ b, W b ≤ 9) (hh : h ≤ 2000) : T l X (d + 5) 205 [.ref 326] 402 402 ρ σ (fun v ρ' σ' => v = none ∧ ρ' = ρ ∧ MTd σ σ' (tdM B h)) := by
  have hM : MSee σ B h 0 0 0 0 0 := ⟨hR.2.2.2.2, fun q => absurd rfl q.1, fun q => absurd rfl q, fun q => absurd q (by decide), fun q => absurd q (by decide)⟩
  cases hf : frm B 0 with
  | none =>
    refine T_of rfl ?_
    refine Ev_aload rfl rfl rfl ?_
    refine Ev_aload rfl rfl rfl ?_
    refine Ev_const rfl ?_
    refine Ev_callV rfl rfl rfl rfl rfl (same_n 402) (m_isTold _ hρ hF (k := 0) (by decide)) ?_
    rintro v3 ρ3 σ3 ⟨rfl, e3, g3⟩
    obtain rfl := e3.symm
    obtain rfl := g3.symm
    refine Ev_if_eq rfl (fun h6 => ?_) (fun h6 => absurd (show bI (frm B 0).isSome = 0 by rw [hf]; rfl) h6)
    refine Ev_const rfl ?_
    refine Ev_putI rfl (by first | rfl | assumption) ⟨rfl, rfl⟩ rfl ?_
    exact Ev_return rfl rfl rfl ⟨rfl, rfl, by rw [tdM_none hf]; exact MTd_put (MSc.rf σ)⟩
  | some cs =>
    obtain ⟨hlen, hty⟩ := hWf 0 (by decide) cs hf
    have hcg : evF (fun s => ((seeF B (S 0) 0 (W 0) h 0 0 0 0 s : Nat) : Int)) cs = evF (fun s => ((seeF B (fun _ => 0) 0 0 h 0 0 0 0 s : Nat) : Int)) cs := evF_congr hty (fun s hs ho => by
      have h0 : s = 0 := Nat.eq_of_beq_eq_true ho
      subst h0
      rfl) (fun q => absurd q (by decide))
    have hb := (evF_ok hty (see := fun s => ((seeF B (S 0) 0 (W 0) h 0 0 0 0 s : Nat) : Int)) (fun s hs ho => seeBd hWt (hWb 0) hh (by decide) (by decide) (by decide) (fun q => absurd rfl q) hW.2.1 (fun q => absurd q (by decide)) hs ho) (fun q => absurd q (by decide))).1
    refine T_of rfl ?_
    refine Ev_aload rfl rfl rfl ?_
    refine Ev_aload rfl rfl rfl ?_
    refine Ev_const rfl ?_
    refine Ev_callV rfl rfl rfl rfl rfl (same_n 402) (m_isTold _ hρ hF (k := 0) (by decide)) ?_
    rintro v3 ρ3 σ3 ⟨rfl, e3, g3⟩
    obtain rfl := e3.symm
    obtain rfl := g3.symm
    refine Ev_if_eq rfl (fun h6 => absurd (show bI (frm B 0).isSome = 0 from h6) (by rw [hf]; exact (by decide : ¬ bI true = 0))) (fun h6 => ?_)
    refine Ev_aload rfl rfl rfl ?_
    refine Ev_const rfl ?_
    refine Ev_callV rfl rfl rfl rfl rfl (same_n 402) (m_codesTell (R := 0) _ hρ hR hF hW hWt hbd hWb hh (tide := 0) (by decide) (v := 0) (by decide) (k := 0) (by decide) hf hty (by decide) hM) ?_
    rintro v11 ρ11 σ11 ⟨rfl, e11, hsc⟩
    obtain rfl := e11.symm
    refine Ev_const rfl ?_
    refine Ev_const rfl ?_
    refine Ev_callS rfl rfl rfl rfl (same_n 402) (m_cut _ _ _ _) ?_
    rintro v17 ρ17 σ17 ⟨rfl, e17, g17⟩
    obtain rfl := e17.symm
    obtain rfl := g17.symm
    refine Ev_norm (cut_btw (lo := 0) (hi := 9) rfl (Bd_Bl hb) (by decide) (by decide) : _ = nI (btw 0 9 _)) ?_
    refine Ev_goto rfl ?_
    refine Ev_putI rfl (by first | rfl | assumption) ⟨rfl, rfl⟩ rfl ?_
    exact Ev_return rfl rfl rfl ⟨rfl, rfl, by
    have e : tdM B h = btw 0 9 (evF (fun s => ((seeF B (S 0) 0 (W 0) h 0 0 0 0 s : Nat) : Int)) cs) := by
      unfold tdM cod
      rw [hf, hcg]
    rw [e]
    exact MTd_put hsc⟩
end S33
