/-! Which wits are left: the class. -/
def okW (B : Bh) (P : Nat → Nat) (S : Str) (h b : Nat) (F : Nat → Nat) (w k : Nat) : Bool := decide (F (4 * k) ≤ most60 h 30) && decide (advB B P (F (4 * k + 1)) (if F (4 * k + 1) = b then w else wit B (F (4 * k + 1))) h (F (4 * k)) (S (F (4 * k + 1))) (F (4 * k + 2)) = F (4 * k + 3))
def wtS (B : Bh) (P : Nat → Nat) (S : Str) (h b r : Nat) (F : Nat → Nat) : Nat := kset 10 (fun w => bif allK r (okW B P S h b F w) then 1 else 0)
section S78
variable {l : Launch} {X : Cx} {ρ : Rf} {B : Bh} {q : Nat}
/-- what stands still while bathers are followed -/
def StI (ρ : Rf) (σ : St) (q : Nat) (B : Bh) (S : Str) (P : Nat → Nat) (h r : Nat) (F : Nat → Nat) : Prop := CRd ρ σ q B ∧ CPl σ 32 B P ∧ CStr σ S ∧ σ.1 32 0 = nI h ∧ σ.1 267 12 = nI r ∧ ∀ j, j < 4 * r → σ.1 315 j = nI (F j)
theorem StI.cr {σ σ' : St} {S : Str} {P F : Nat → Nat} {h r : Nat} (H : StI ρ σ q B S P h r F) (s : CF (cLr 279) σ σ') : StI ρ σ' q B S P h r F := by
  obtain ⟨h1, h2, h3, h4, h5, h6⟩ := H
  exact ⟨h1.cr row279 s, h2.cf s (fun j => cLr_f (by omega) (by omega)) (fun j => cLr_f (by omega) (by omega)) (fun j => cLr_f (by omega) (by omega)), fun b hb => (h3 b hb).cl s (fun j => cLr_f (by omega) (by omega)), by rw [s.1 32 _ rfl]; exact h4, by rw [s.1 267 _ rfl]; exact h5, fun j hj => by rw [s.1 315 j rfl]; exact h6 j hj⟩
theorem t_isSo (d : Nat) {σ : St} {S : Str} {P F : Nat → Nat} {h r b w k : Nat} (H : StI ρ σ q B S P h r F) (hW : WfN B) (hWt : WfT B) (hWf : WfF B) (hP : WfP B P) (hSw : WfS B S) (hh : h ≤ 999) (hr : r ≤ 16) (hk : k < r) (hF : F (4 * k) ≤ 30 ∧ F (4 * k + 1) < nb B ∧ F (4 * k + 2) < ni B ∧ F (4 * k + 3) ≤ 99) (hb : b < nb B) (hw : w ≤ 9) :
    T l X (d + 7) 29 [.ref 267, .int (nI (4 * k)), .int (nI b), .int (nI w)] 402 402 ρ σ (fun v ρ' σ' => v = some (.int (bI (okW B P S h b F w k))) ∧ ρ' = ρ ∧ CF (cLr 279) σ σ') := by
  obtain ⟨h1, h2, h3, h4, h5, h6⟩ := H
  have hρ := h1.1
  have n6 := hW.2.1
  have n8 := hW.1
  have hm : most60 h 30 ≤ 30 := by unfold most60; split <;> omega
  have fin : ∀ wv, wv ≤ 9 → wv = (if F (4 * k + 1) = b then w else wit B (F (4 * k + 1))) → F (4 * k) ≤ most60 h 30 →
      Ev l X (d + 7) 29 61 [.ref 267, .int (nI (4 * k)), .int (nI b), .int (nI w), .int (nI (F (4 * k))), .int (nI (F (4 * k + 1)))] [.int (nI wv), .int (nI (F (4 * k + 1))), .ref 32, .ref 267] 402 402 402 ρ σ (fun v ρ' σ' => v = some (.int (bI (okW B P S h b F w k))) ∧ ρ' = ρ ∧ CF (cLr 279) σ σ') := by
    intro wv hwv hwe hle
    have h99 := (advB_w (b := F (4 * k + 1)) (w := wv) (h := h) hP (hSw.row (F (4 * k + 1))) (F (4 * k))).1 (F (4 * k + 2))
    refine Ev_iload rfl rfl ?_
    refine Ev_callV rfl rfl rfl rfl rfl (same_n 402) (t_runRow _ h1 hW hWt hWf (Or.inl rfl) hP h2 h3 hSw h4 hwv (by omega) hF.2.1) ?_
    rintro v63 ρ63 σ63 ⟨rfl, e63, s63, r63⟩
    obtain rfl := e63.symm
    refine Ev_pop rfl (fun _ q => nomatch q) ?_
    refine Ev_aload rfl rfl rfl ?_
    refine Ev_getR rfl (by first | rfl | assumption) (hρ _ _ _ rfl) ?_
    refine Ev_aload rfl rfl rfl ?_
    refine Ev_getR rfl (by first | rfl | assumption) (hρ _ _ _ rfl) ?_
    refine Ev_iload rfl rfl ?_
    refine Ev_const rfl ?_
    refine Ev_iadd rfl ?_
    refine Ev_norm (nI_add (4 * k) 2) ?_
    refine Ev_iald rfl (by first | rfl | assumption) (vp_in_nI (n := 4 * k + 2) (show 4 * k + 2 < 64 by omega) (by decide)) ?_
    refine Ev_norm (by rw [nI_clamp (by omega), s63.1 315 _ rfl]; exact h6 _ (by omega) : _ = nI (F (4 * k + 2))) ?_
    refine Ev_iald rfl (by first | rfl | assumption) (vp_in_nI (n := F (4 * k + 2)) (show F (4 * k + 2) < 8 by omega) (by decide)) ?_
    refine Ev_norm (show _ = nI (advB B P (F (4 * k + 1)) wv h (F (4 * k)) (S (F (4 * k + 1))) (F (4 * k + 2))) by rw [nI_clamp (by omega)]; exact r63 _ (by omega)) ?_
    refine Ev_aload rfl rfl rfl ?_
    refine Ev_getR rfl (by first | rfl | assumption) (hρ _ _ _ rfl) ?_
    refine Ev_iload rfl rfl ?_
    refine Ev_const rfl ?_
    refine Ev_iadd rfl ?_
    refine Ev_norm (nI_add (4 * k) 3) ?_
    refine Ev_iald rfl (by first | rfl | assumption) (vp_in_nI (n := 4 * k + 3) (show 4 * k + 3 < 64 by omega) (by decide)) ?_
    refine Ev_norm (by rw [nI_clamp (by omega), s63.1 315 _ rfl]; exact h6 _ (by omega) : _ = nI (F (4 * k + 3))) ?_
    refine Ev_icmp_ne rfl (fun h88 => ?_) (fun h88 => ?_)
    · refine Ev_const rfl ?_
      exact Ev_ireturn rfl rfl rfl rfl ⟨by unfold okW; rw [← hwe, decide_eq_false (p := advB B P (F (4 * k + 1)) wv h (F (4 * k)) (S (F (4 * k + 1))) (F (4 * k + 2)) = F (4 * k + 3)) (fun z => h88 (by rw [z])), Bool.and_false]; rfl, rfl, s63⟩
    · refine Ev_const rfl ?_
      refine Ev_goto rfl ?_
      exact Ev_ireturn rfl rfl rfl rfl ⟨by unfold okW; rw [← hwe, decide_eq_true hle, decide_eq_true ((nI_eq (by omega) (by omega)).mp (Decidable.not_not.mp h88))]; rfl, rfl, s63⟩
  refine T_of rfl ?_
  refine Ev_aload rfl rfl rfl ?_
  refine Ev_getR rfl (by first | rfl | assumption) (hρ _ _ _ rfl) ?_
  refine Ev_iload rfl rfl ?_
  refine Ev_iald rfl (by first | rfl | assumption) (vp_in_nI (n := 4 * k) (show 4 * k < 64 by omega) (by decide)) ?_
  refine Ev_norm (by rw [nI_clamp (by omega)]; exact h6 _ (by omega) : _ = nI (F (4 * k))) ?_
  refine Ev_istore rfl ?_
  refine Ev_aload rfl rfl rfl ?_
  refine Ev_getR rfl (by first | rfl | assumption) (hρ _ _ _ rfl) ?_
  refine Ev_iload rfl rfl ?_
  refine Ev_const rfl ?_
  refine Ev_iadd rfl ?_
  refine Ev_norm (nI_1 (4 * k)) ?_
  refine Ev_iald rfl (by first | rfl | assumption) (vp_in_nI (n := 4 * k + 1) (show 4 * k + 1 < 64 by omega) (by decide)) ?_
  refine Ev_norm (by rw [nI_clamp (by omega)]; exact h6 _ (by omega) : _ = nI (F (4 * k + 1))) ?_
  refine Ev_istore rfl ?_
  refine Ev_iload rfl rfl ?_
  refine Ev_aload rfl rfl rfl ?_
  refine Ev_const rfl ?_
  refine Ev_callV rfl rfl rfl rfl rfl (same_n 402) (t_hoursToCome _ (m := 30) hρ h4 hh (by decide)) ?_
  rintro v23 ρ23 σ23 ⟨rfl, e23, g23⟩
  obtain rfl := e23.symm
  obtain rfl := g23.symm
  refine Ev_icmp_le rfl (fun h26 => ?_) (fun h26 => ?_)
  · refine Ev_aload rfl rfl rfl ?_
    refine Ev_aload rfl rfl rfl ?_
    refine Ev_getR rfl (by first | rfl | assumption) (hρ _ _ _ rfl) ?_
    refine Ev_iload rfl rfl ?_
    refine Ev_iload rfl rfl ?_
    refine Ev_iload rfl rfl ?_
    refine Ev_icmp_ne rfl (fun h41 => ?_) (fun h41 => ?_)
    · refine Ev_aload rfl rfl rfl ?_
      refine Ev_getR rfl (by first | rfl | assumption) (hρ _ _ _ rfl) ?_
      refine Ev_getR rfl (by first | rfl | assumption) h1.2.2.1 ?_
      refine Ev_getR rfl (by rcases h1.2.1 with rfl | rfl <;> rfl) (by rcases h1.2.1 with rfl | rfl <;> exact hρ _ _ _ rfl : _ = some (q + 7)) ?_
      refine Ev_iload rfl rfl ?_
      refine Ev_iald rfl (by rcases h1.2.1 with rfl | rfl <;> rfl) (by rcases h1.2.1 with rfl | rfl <;> exact vp_in_nI (n := F (4 * k + 1)) (show F (4 * k + 1) < 6 by omega) (by decide)) ?_
      refine Ev_norm (by rw [nI_clamp (by omega)]; exact ev_wit h1 hF.2.1 : _ = nI (wit B (F (4 * k + 1)))) ?_
      exact fin _ (hWt.2.1 _ hF.2.1).2 (by rw [if_neg (fun z => h41 (by rw [z]))]) ((nI_leI (by omega) (by omega)).mp h26)
    · refine Ev_iload rfl rfl ?_
      refine Ev_goto rfl ?_
      exact fin w hw (by rw [if_pos ((nI_eq (by omega) (by omega)).mp (Decidable.not_not.mp h41))]) ((nI_leI (by omega) (by omega)).mp h26)
  · refine Ev_const rfl ?_
    exact Ev_ireturn rfl rfl rfl rfl ⟨by unfold okW; rw [decide_eq_false (fun z => h26 (nI_le z (by omega)))]; rfl, rfl, CF.rf _ _⟩
theorem wl_in {d : Nat} {S : Str} {P F : Nat → Nat} {h r b w : Nat} {Q : Po} {s : Int32} (hW : WfN B) (hWt : WfT B) (hWf : WfF B) (hP : WfP B P) (hSw : WfS B S) (hh : h ≤ 999) (hr : r ≤ 16) (hF : ∀ k, k < r → F (4 * k) ≤ 30 ∧ F (4 * k + 1) < nb B ∧ F (4 * k + 2) < ni B ∧ F (4 * k + 3) ≤ 99) (hb : b < nb B) (hw : w ≤ 9) (σ0 : St)
    (hQ : ∀ σ x, CF (cLr 279) σ0 σ → StI ρ σ q B S P h r F → Ev l X (d + 8) 28 48 [.ref 267, .int (nI b), .int s, .int (nI w), .int (bI (allK r (okW B P S h b F w))), x] [] 402 402 402 ρ σ Q) :
    ∀ (m k : Nat) (σ : St), k + m = r → CF (cLr 279) σ0 σ → StI ρ σ q B S P h r F → Ev l X (d + 8) 28 16 [.ref 267, .int (nI b), .int s, .int (nI w), .int (bI (allK k (okW B P S h b F w))), .int (nI k)] [] 402 402 402 ρ σ Q := by
  intro m
  induction m with
  | zero =>
    intro k σ hk hs H
    have hk : k = r := by omega
    subst hk
    refine Ev_iload rfl rfl ?_
    refine Ev_aload rfl rfl rfl ?_
    refine Ev_getI rfl (by first | rfl | assumption) ?_
    refine Ev_norm H.2.2.2.2.1 ?_
    refine Ev_icmp_ge rfl (fun h22 => ?_) (fun h22 => absurd (nI_le (Nat.le_refl _) (by omega)) h22)
    exact hQ σ _ hs H
  | succ m ih =>
    intro k σ hk hs H
    refine Ev_iload rfl rfl ?_
    refine Ev_aload rfl rfl rfl ?_
    refine Ev_getI rfl (by first | rfl | assumption) ?_
    refine Ev_norm H.2.2.2.2.1 ?_
    refine Ev_icmp_ge rfl (fun h22 => absurd h22 (nI_ge (by omega) (by omega))) (fun h22 => ?_)
    refine Ev_iload rfl rfl ?_
    refine Ev_if_eq rfl (fun h27 => ?_) (fun h27 => ?_)
    · have e : allK r (okW B P S h b F w) = allK k (okW B P S h b F w) := by
        rw [ff_of h27]
        cases hq : allK r (okW B P S h b F w)
        · rfl
        · exact absurd (allK_of (m := k) (p := okW B P S h b F w) (fun j hj => allK_at hq j (by omega))) (by rw [ff_of h27]; decide)
      rw [← e]
      exact hQ σ _ hs H
    · refine Ev_aload rfl rfl rfl ?_
      refine Ev_const rfl ?_
      refine Ev_iload rfl rfl ?_
      refine Ev_imul rfl ?_
      refine Ev_norm (pk_mul 4 k : _ = nI (4 * k)) ?_
      refine Ev_iload rfl rfl ?_
      refine Ev_iload rfl rfl ?_
      refine Ev_callV rfl rfl rfl rfl rfl (same_n 402) (t_isSo _ H hW hWt hWf hP hSw hh hr (by omega) (hF k (by omega)) hb hw) ?_
      rintro v37 ρ37 σ37 ⟨rfl, e37, s37⟩
      obtain rfl := e37.symm
      refine Ev_istore rfl ?_
      refine Ev_iincE rfl rfl (nI_1 k) ?_
      refine Ev_goto rfl ?_
      have e : allK (k + 1) (okW B P S h b F w) = okW B P S h b F w k := by
        show (allK k (okW B P S h b F w) && okW B P S h b F w k) = _
        rw [rt_of h27, Bool.true_and]
      have := ih (k + 1) σ37 (by omega) (hs.tr s37) (H.cr s37)
      rw [e] at this
      exact this
theorem wl_out {d : Nat} {S : Str} {P F : Nat → Nat} {h r b : Nat} (hW : WfN B) (hWt : WfT B) (hWf : WfF B) (hP : WfP B P) (hSw : WfS B S) (hh : h ≤ 999) (hr : r ≤ 16) (hF : ∀ k, k < r → F (4 * k) ≤ 30 ∧ F (4 * k + 1) < nb B ∧ F (4 * k + 2) < ni B ∧ F (4 * k + 3) ≤ 99) (hb : b < nb B) (σ0 : St) :
    ∀ (m w : Nat) (σ : St) (x4 x5 : Value), w + m = 10 → CF (cLr 279) σ0 σ → StI ρ σ q B S P h r F → Ev l X (d + 8) 28 4 [.ref 267, .int (nI b), .int (nI (kset w (fun w => bif allK r (okW B P S h b F w) then 1 else 0))), .int (nI w), x4, x5] [] 402 402 402 ρ σ (fun v ρ' σ' => v = some (.int (nI (wtS B P S h b r F))) ∧ ρ' = ρ ∧ CF (cLr 279) σ0 σ') := by
  intro m
  induction m with
  | zero =>
    intro w σ x4 x5 hw hs H
    have hw : w = 10 := by omega
    subst hw
    refine Ev_iload rfl rfl ?_
    refine Ev_const rfl ?_
    refine Ev_icmp_ge rfl (fun h7 => ?_) (fun h7 => absurd (by decide) h7)
    refine Ev_iload rfl rfl ?_
    exact Ev_ireturn rfl rfl rfl rfl ⟨rfl, rfl, hs⟩
  | succ m ih =>
    intro w σ x4 x5 hw hs H
    refine Ev_iload rfl rfl ?_
    refine Ev_const rfl ?_
    refine Ev_icmp_ge rfl (fun h7 => absurd h7 (nI_ge (b := 10) (by omega) (by decide))) (fun h7 => ?_)
    refine Ev_const rfl ?_
    refine Ev_istore rfl ?_
    refine Ev_const rfl ?_
    refine Ev_istore rfl ?_
    refine wl_in (w := w) hW hWt hWf hP hSw hh hr hF hb (by omega) σ0 (fun σ2 x hs2 H2 => ?_) r 0 σ (by omega) hs H
    refine Ev_iload rfl rfl ?_
    refine Ev_if_eq rfl (fun h50 => ?_) (fun h50 => ?_)
    · refine Ev_iincE rfl rfl (nI_1 w) ?_
      refine Ev_goto rfl ?_
      have e := kset_s0 (n := w) (f := fun w => bif allK r (okW B P S h b F w) then 1 else 0) (by show (bif allK r (okW B P S h b F w) then 1 else 0) = 0; rw [ff_of h50]; rfl)
      have := ih (w + 1) σ2 (.int (bI (allK r (okW B P S h b F w)))) x (by omega) hs2 H2
      rw [e] at this
      exact this
    · refine Ev_iload rfl rfl ?_
      refine Ev_const rfl ?_
      refine Ev_iload rfl rfl ?_
      refine Ev_ishl rfl ?_
      refine Ev_ior rfl ?_
      refine Ev_norm (set_bit (kset_lt w _) (by omega)) ?_
      refine Ev_istore rfl ?_
      refine Ev_iincE rfl rfl (nI_1 w) ?_
      refine Ev_goto rfl ?_
      have e := kset_s1 (n := w) (f := fun w => bif allK r (okW B P S h b F w) then 1 else 0) (by show 0 < (bif allK r (okW B P S h b F w) then 1 else 0); rw [rt_of h50]; exact Nat.zero_lt_one)
      have := ih (w + 1) σ2 (.int (bI (allK r (okW B P S h b F w)))) x (by omega) hs2 H2
      rw [e] at this
      exact this
theorem t_witsLeft (d : Nat) {σ : St} {S : Str} {P F : Nat → Nat} {h r b : Nat} (H : StI ρ σ q B S P h r F) (hW : WfN B) (hWt : WfT B) (hWf : WfF B) (hP : WfP B P) (hSw : WfS B S) (hh : h ≤ 999) (hr : r ≤ 16) (hF : ∀ k, k < r → F (4 * k) ≤ 30 ∧ F (4 * k + 1) < nb B ∧ F (4 * k + 2) < ni B ∧ F (4 * k + 3) ≤ 99) (hb : b < nb B) :
    T l X (d + 8) 28 [.ref 267, .int (nI b)] 402 402 ρ σ (fun v ρ' σ' => v = some (.int (nI (wtS B P S h b r F))) ∧ ρ' = ρ ∧ CF (cLr 279) σ σ') := by
  refine T_of rfl ?_
  refine Ev_const rfl ?_
  refine Ev_istore rfl ?_
  refine Ev_const rfl ?_
  refine Ev_istore rfl ?_
  exact wl_out hW hWt hWf hP hSw hh hr hF hb σ 10 0 σ (.float 0) (.float 0) (by omega) (CF.rf _ _) H
end S78
