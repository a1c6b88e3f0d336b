/-! A formula read by the reference: a comma, an end. -/
section S88zi
variable {l : Launch} {X : Cx} {ρ : Rf} {U : Tx}
theorem m_goComma (d : Nat) {σ : St} {v out w : List Nat} {o : Nat} {q : Nat × Nat} (hρ : RF ρ) (hT : TxW U) (H : MTt σ U (.inr q)) (hb : σ.1 326 104 = nI v.length) (hq : MPq σ out (w ++ v) o) (ho : okS w) (hl : out.length + (w ++ v).length ≤ q.1) (hB : brk w = 1021 ∨ brk w = 1022) (L1 : Value) :
    Ev l X (d + 4) 274 326 [.ref 326, L1] [] 402 402 402 ρ σ (fun v' ρ' σ' => ρ' = ρ ∧ MB σ σ' ∧ ((mC U (.inr q) = some 44 ∧ v' = some (.int 1) ∧ MYs σ' U v (adv 1 0 (skM U (.inr q)), out ++ opA w, (brk w + 2) :: (rsA w).tail, o)) ∨ (mC U (.inr q) ≠ some 44 ∧ v' = some (.int 0) ∧ MYs σ' U v (flA 1 0 (skM U (.inr q)), out, w, o)))) := by
  have h16 := hT.1
  have hle : q.1 ≤ U.1 := H.le
  have hup := skp_up U q.1
  have hlw : (w ++ v).length = w.length + v.length := List.length_append
  have hol := op_len w
  have hrs := rs_e (w := w) (by omega)
  have hcr := cnt_rs v w
  have hokr := okS_rs w ho
  by_cases hc : mC U (.inr q) = some 44
  · have eA : mAs U 44 (.inr q) = .inr (skp U q.1 + 1, 0) := by unfold mAs; rw [if_pos hc]; rfl
    generalize hbw : brk w = b at *
    generalize htl : (rsA w).tail = tl at *
    rw [hrs] at hol hcr hokr
    rw [List.length_cons] at hol
    have htv : (tl ++ v).length = tl.length + v.length := List.length_append
    have hopb : isOpn b = true := by rcases hB with z | z <;> (rw [z]; rfl)
    have hopb2 : isOpn (b + 2) = true := by rcases hB with z | z <;> (rw [z]; rfl)
    have hmem2 : b + 2 ∈ [34, 35, 36, 37, 38, 39, 1020, 1021, 1022, 1023, 1024] := by rcases hB with z | z <;> (rw [z]; decide)
    have hcr : cntO (b :: (tl ++ v)) ≤ cntO (w ++ v) := hcr
    rw [cnt_p hopb] at hcr
    have ho1 : cntO (w ++ v) ≤ o := hq.2.2.1
    refine Ev_aload rfl rfl rfl ?_
    refine Ev_const rfl ?_
    refine Ev_callV rfl rfl rfl rfl rfl (same_n 402) (m_asksSign _ (c := 44) hρ hT (by decide) H) ?_
    rintro v329 ρ329 σ329 ⟨rfl, e329, s329, c329⟩
    obtain rfl := e329.symm
    rw [eA] at s329
    refine Ev_aload rfl rfl rfl ?_
    refine Ev_getI rfl (by first | rfl | assumption) ?_
    refine Ev_norm s329.bad0 ?_
    refine Ev_if_eq rfl (fun h336 => ?_) (fun h336 => absurd rfl h336)
    refine Ev_aload rfl rfl rfl ?_
    refine Ev_callV rfl rfl rfl rfl rfl (same_n 402) (T_of rfl (m_qDropsToBracket _ (v := v) hρ w out σ329 (hq.mx c329).1 (by rw [c329.2.2 _ rfl]; exact hb) (by omega) ho)) ?_
    rintro v342 ρ342 σ342 ⟨rfl, e342, s342, c342⟩
    obtain rfl := e342.symm
    rw [hrs] at s342
    have s342 : MPc σ342 (out ++ opA w) (b :: (tl ++ v)) := s342
    refine Ev_aload rfl rfl rfl ?_
    refine Ev_getR rfl (by first | rfl | assumption) (hρ _ _ _ rfl) ?_
    refine Ev_aload rfl rfl rfl ?_
    refine Ev_getI rfl (by first | rfl | assumption) ?_
    refine Ev_norm (s342.2.2.1 : _ = nI ((tl ++ v).length + 1)) ?_
    refine Ev_const rfl ?_
    refine Ev_isub rfl ?_
    refine Ev_norm (pk_s1 (tl ++ v).length) ?_
    refine Ev_dup2 rfl (fun _ q => nomatch q) (fun _ q => nomatch q) ?_
    refine Ev_iald rfl (by first | rfl | assumption) (vp_in_nI (n := (tl ++ v).length) (show (tl ++ v).length < 1700 by omega) (by decide)) ?_
    refine Ev_norm (by rw [nI_clamp (by omega)]; exact s342.2.2.2.1 : _ = nI (ec b)) ?_
    refine Ev_const rfl ?_
    refine Ev_iadd rfl ?_
    refine Ev_norm (show _ = nI (ec (b + 2)) by rcases hB with z | z <;> (subst z; rfl)) ?_
    refine Ev_iast rfl (by first | rfl | assumption) (vp_in_nI (n := (tl ++ v).length) (show (tl ++ v).length < 1700 by omega) (by decide)) ?_
    refine Ev_const rfl ?_
    exact Ev_ireturn rfl rfl (narZ true) rfl (by
    rw [nI_clamp (by omega)]
    have hcell : MW σ342 (sI σ342 399 (upd (σ342.1 399) (tl ++ v).length (nI (ec (b + 2))))) := MF.cell _ (by decide) rfl
    refine ⟨rfl, c329.b.tr (c342.b.tr hcell.b), Or.inl ⟨hc, rfl, (s329.mz c342.z).mz hcell.z, ?_, fun _ => ⟨⟨⟨?_, ?_, ?_, ?_⟩, ?_, ?_, hq.2.2.2⟩, okS_p hmem2 (okS_c hokr).2, ?_⟩, fun z => by cases z⟩⟩
    · rw [hcell.2.2 _ rfl, c342.2.2 _ rfl, c329.2.2 _ rfl]; exact hb
    · rw [sR_1 _ _ (by decide)]; exact s342.1
    · rw [sR_1 _ _ (by decide)]; exact s342.2.1
    · rw [sR_1 _ _ (by decide)]; exact s342.2.2.1
    · rw [sR_0]; exact ⟨pk_us, s342.2.2.2.2.up (Nat.le_refl _)⟩
    · rw [hcell.2.2 _ rfl, c342.2.2 _ rfl, c329.2.2 _ rfl]; exact hq.2.1
    · show cntO ((b + 2) :: (tl ++ v)) ≤ o
      rw [cnt_p hopb2]; omega
    · show (out ++ opA w).length + ((tl ++ v).length + 1) ≤ skp U q.1 + 1
      rw [List.length_append]; omega)
  · have eA : mAs U 44 (.inr q) = .inl (1, skp U q.1) := by unfold mAs; rw [if_neg hc]; rfl
    refine Ev_aload rfl rfl rfl ?_
    refine Ev_const rfl ?_
    refine Ev_callV rfl rfl rfl rfl rfl (same_n 402) (m_asksSign _ (c := 44) hρ hT (by decide) H) ?_
    rintro v329 ρ329 σ329 ⟨rfl, e329, s329, c329⟩
    obtain rfl := e329.symm
    rw [eA] at s329
    refine Ev_aload rfl rfl rfl ?_
    refine Ev_getI rfl (by first | rfl | assumption) ?_
    refine Ev_norm s329.2.2.1 ?_
    refine Ev_if_eq rfl (fun h336 => absurd h336 (show ¬ nI 1 = 0 by decide)) (fun h336 => ?_)
    refine Ev_const rfl ?_
    exact Ev_ireturn rfl rfl (narZ false) rfl ⟨rfl, c329.b, Or.inr ⟨hc, rfl, s329, by rw [c329.2.2 _ rfl]; exact hb, (fun z => by cases z), fun _ => (hq.1.cd (by omega)).of (c329.2.2 _ rfl)⟩⟩
theorem m_goStop (d : Nat) {σ : St} {v out w : List Nat} {o a tc : Nat} (hρ : RF ρ) (hT : TxW U) (H : MTt σ U (.inr (a, tc))) (hb : σ.1 326 104 = nI v.length) (hq : MPq σ out (w ++ v) o) (ho : okS w) (hl : out.length + (w ++ v).length ≤ a) (L1 : Value) :
    Ev l X (d + 4) 274 362 [.ref 326, L1] [] 402 402 402 ρ σ (fun v' ρ' σ' => ρ' = ρ ∧ MB σ σ' ∧ v' = some (.int 0) ∧ MYs σ' U v (if brk w = 0 then (.inr (a, tc), out, w, o) else (.inl (1, a), out, w, o))) := by
  have h16 := hT.1
  have hle := H.le
  have hbd : brk w = 0 ∨ (1020 ≤ brk w ∧ brk w < 1100) := by
    by_cases h : brk w = 0
    · exact Or.inl h
    · have hrs := rs_e h
      have hm := okS_rs w ho (brk w) (by rw [hrs]; exact List.mem_cons_self)
      have hbr : isBr (brk w) = true := by
        have : ∀ u, okS u → brk u ≠ 0 → isBr (brk u) = true := by
          intro u
          induction u with
          | nil => intro _ z; exact absurd rfl z
          | cons e u ih =>
            intro ho z
            cases hp : isBr e with
            | true => rw [(brk_y hp).1]; exact hp
            | false => rw [(brk_n hp).1] at z ⊢; exact ih (okS_c ho).2 z
        exact this w ho h
      unfold isBr at hbr
      rw [Bool.and_eq_true, Nat.ble_eq, Nat.ble_eq] at hbr
      omega
  by_cases h0 : brk w = 0
  · rw [if_pos h0]
    have e0 : brI w = -1 := by unfold brI; exact if_pos h0
    refine Ev_aload rfl rfl rfl ?_
    refine Ev_callV rfl rfl rfl rfl rfl (same_n 402) (m_qBracket _ (v := v) hρ hq.1 hb (by omega) ho) ?_
    rintro v363 ρ363 σ363 ⟨rfl, e363, g363⟩
    obtain rfl := e363.symm
    obtain rfl := g363.symm
    refine Ev_norm e0 ?_
    refine Ev_const rfl ?_
    refine Ev_icmp_eq rfl (fun h367 => ?_) (fun h367 => absurd rfl h367)
    refine Ev_const rfl ?_
    exact Ev_ireturn rfl rfl (narZ false) rfl ⟨rfl, MF.rf _ _ _, rfl, H, hb, (fun _ => ⟨hq, ho, hl⟩), fun z => by cases z⟩
  · rw [if_neg h0]
    have e0 : brI w = nI (brk w - 1000) := by unfold brI; exact if_neg h0
    refine Ev_aload rfl rfl rfl ?_
    refine Ev_callV rfl rfl rfl rfl rfl (same_n 402) (m_qBracket _ (v := v) hρ hq.1 hb (by omega) ho) ?_
    rintro v363 ρ363 σ363 ⟨rfl, e363, g363⟩
    obtain rfl := e363.symm
    obtain rfl := g363.symm
    refine Ev_norm e0 ?_
    refine Ev_const rfl ?_
    refine Ev_icmp_eq rfl (fun h367 => absurd h367 (nI_m1 (by omega))) (fun h367 => ?_)
    refine Ev_aload rfl rfl rfl ?_
    refine Ev_getI rfl (by first | rfl | assumption) ?_
    refine Ev_norm H.bad0 ?_
    refine Ev_if_ne rfl (fun h374 => absurd rfl h374) (fun h374 => ?_)
    refine Ev_aload rfl rfl rfl ?_
    refine Ev_const rfl ?_
    refine Ev_aload rfl rfl rfl ?_
    refine Ev_getI rfl (by first | rfl | assumption) ?_
    refine Ev_norm H.at0 ?_
    refine Ev_callV rfl rfl rfl rfl rfl (same_n 402) (m_fail _ (w := 1) (k := a) H (by decide) (fun _ _ => rfl)) ?_
    rintro v383 ρ383 σ383 ⟨rfl, e383, s383, c383⟩
    obtain rfl := e383.symm
    refine Ev_const rfl ?_
    exact Ev_ireturn rfl rfl (narZ false) rfl ⟨rfl, c383.b, rfl, s383, by rw [c383.2.2 _ rfl]; exact hb, (fun z => by cases z), fun _ => (hq.1.cd (by omega)).of (c383.2.2 _ rfl)⟩
end S88zi
