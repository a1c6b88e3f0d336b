/-! A formula read by the reference: a bracket closed. -/
theorem rs_e {w : List Nat} (h : brk w ≠ 0) : rsA w = brk w :: (rsA w).tail := by
  unfold brk at h ⊢
  cases hr : rsA w with
  | nil => rw [hr] at h; exact absurd rfl h
  | cons e u => rfl
theorem op_len : ∀ w, (opA w).length + (rsA w).length = w.length := by
  intro w
  induction w with
  | nil => rfl
  | cons e w ih =>
    cases h : isBr e with
    | true => rw [(brk_y h).2.1, (brk_y h).2.2]; exact Nat.zero_add _
    | false => rw [(brk_n h).2.1, (brk_n h).2.2, List.length_cons, List.length_cons]; omega
theorem cnt_rs (v : List Nat) : ∀ w, cntO (rsA w ++ v) ≤ cntO (w ++ v) := by
  intro w
  induction w with
  | nil => exact Nat.le_refl _
  | cons e w ih =>
    cases h : isBr e with
    | true => rw [(brk_y h).2.1]; exact Nat.le_refl _
    | false =>
      rw [(brk_n h).2.1]
      refine Nat.le_trans ih ?_
      show cntO (w ++ v) ≤ (bif isOpn e then cntO (w ++ v) + 1 else cntO (w ++ v))
      cases isOpn e
      · exact Nat.le_refl _
      · exact Nat.le_succ _
theorem okS_rs : ∀ w, okS w → okS (rsA w) := by
  intro w
  induction w with
  | nil => exact fun h => h
  | cons e w ih =>
    intro h
    cases hp : isBr e with
    | true => rw [(brk_y hp).2.1]; exact h
    | false => rw [(brk_n hp).2.1]; exact ih (okS_c h).2
def brX (b : Nat) : List Nat := if b = 1020 then [] else if b = 1023 then [45] else [46]
section S88zh
variable {l : Launch} {X : Cx} {ρ : Rf} {U : Tx}
theorem m_goBr (d : Nat) {σ : St} {v out w : List Nat} {o a tc : Nat} (hρ : RF ρ) (hT : TxW U) (hv : okT v) (ha : a < U.1) (H : MTt σ U (.inr (a, tc))) (hb : σ.1 326 104 = nI v.length) (hq : MPq σ out (w ++ v) o) (ho : okS w) (hl : out.length + (w ++ v).length ≤ a) (hB : brk w = 1020 ∨ brk w = 1023 ∨ brk w = 1024) (L1 : Value) {Q : Po}
    (hQ : ∀ σ', MYs σ' U v (qeY (.inr (a + 1, 0)) ((out ++ opA w) ++ brX (brk w)) ((rsA w).tail) (o - 1)) → MB σ σ' → Ev l X (d + 4) 274 0 [.ref 326, L1] [] 402 402 402 ρ σ' Q) :
    Ev l X (d + 4) 274 43 [.ref 326, L1] [] 402 402 402 ρ σ Q := by
  have h16 := hT.1
  have hlw : (w ++ v).length = w.length + v.length := List.length_append
  have hol := op_len w
  have hrs := rs_e (w := w) (by omega)
  have hcr := cnt_rs v w
  have hokr := okS_rs w ho
  generalize hbw : brk w = b at *
  generalize htl : (rsA w).tail = tl at *
  rw [hrs] at hol hcr hokr
  rw [List.length_cons] at hol
  have htv : (tl ++ v).length = tl.length + v.length := List.length_append
  have hopb : isOpn b = true := by rcases hB with z | z | z <;> (rw [z]; rfl)
  have hcr : cntO (b :: (tl ++ v)) ≤ cntO (w ++ v) := hcr
  rw [cnt_p hopb] at hcr
  have ho1 : cntO (w ++ v) ≤ o := hq.2.2.1
  have ho6 : o ≤ 6 := hq.2.2.2
  have eo : o = o - 1 + 1 := by omega
  have hokt : okS tl := (okS_c hokr).2
  have s1 := H.on1 ha hT
  have hq1 := hq.mx (mx_put (σ := σ) (f := 2) (nI (a + 1)) rfl)
  -- behind the bracket's own order
  have fin : ∀ (σ4 : St), MTt σ4 U (.inr (a + 1, 0)) → MPc σ4 ((out ++ opA w) ++ brX b) (tl ++ v) → σ4.1 326 103 = nI (o - 1) → σ4.1 326 104 = nI v.length → MB σ σ4 → Ev l X (d + 4) 274 115 [.ref 326, L1] [] 402 402 402 ρ σ4 Q := by
    intro σ4 s4 p4 o4 b4 c4
    have hbx : (brX b).length ≤ 1 := by unfold brX; split; exact Nat.zero_le _; split <;> exact Nat.le_refl _
    have hlen : (out ++ opA w ++ brX b).length ≤ out.length + (opA w).length + 1 := by rw [List.length_append, List.length_append]; omega
    refine Ev_aload rfl rfl rfl ?_
    refine Ev_callV rfl rfl rfl rfl rfl (same_n 402) (T_of rfl (m_qEndsPart _ (v := v) hρ hT hv tl ((out ++ opA w) ++ brX b) (o - 1) (.inr (a + 1, 0)) σ4 s4 b4 (fun _ => ⟨⟨p4, o4, by omega, by omega⟩, hokt, by omega⟩))) ?_
    rintro v116 ρ116 σ116 ⟨rfl, e116, s116, b116, q116, c116, d116⟩
    obtain rfl := e116.symm
    refine Ev_goto rfl ?_
    have e1 : (qeY (.inr (a + 1, 0)) ((out ++ opA w) ++ brX b) tl (o - 1)).1 = .inr (a + 1, 0) := qeY_1 _ _ _ _
    refine hQ σ116 ⟨by rw [e1]; exact s116, b116, fun z => ?_, fun z => by rw [e1] at z; cases z⟩ (c4.tr (c116.b (by rw [b116, b4])))
    obtain ⟨z1, z2, z3⟩ := q116 rfl
    refine ⟨z1, z2, ?_⟩
    rw [z3, e1]
    show _ ≤ a + 1
    omega
  refine Ev_aload rfl rfl rfl ?_
  refine Ev_dup rfl (fun _ q => nomatch q) ?_
  refine Ev_getI rfl (by first | rfl | assumption) ?_
  refine Ev_norm H.at0 ?_
  refine Ev_const rfl ?_
  refine Ev_iadd rfl ?_
  refine Ev_norm (nI_1 a) ?_
  refine Ev_putI rfl (by first | rfl | assumption) ⟨rfl, rfl⟩ rfl ?_
  refine Ev_aload rfl rfl rfl ?_
  refine Ev_callV rfl rfl rfl rfl rfl (same_n 402) (T_of rfl (m_qDropsToBracket _ (v := v) hρ w out _ hq1.1 (by rw [sR_0, pk_un (by decide)]; exact hb) (by omega) ho)) ?_
  rintro v54 ρ54 σ54 ⟨rfl, e54, s54, c54⟩
  obtain rfl := e54.symm
  rw [hrs] at s54
  have s54 : MPc σ54 (out ++ opA w) (b :: (tl ++ v)) := s54
  refine Ev_aload rfl rfl rfl ?_
  refine Ev_dup rfl (fun _ q => nomatch q) ?_
  refine Ev_getI rfl (by first | rfl | assumption) ?_
  refine Ev_norm (s54.2.2.1 : _ = nI ((tl ++ v).length + 1)) ?_
  refine Ev_const rfl ?_
  refine Ev_isub rfl ?_
  refine Ev_norm (pk_s1 (tl ++ v).length) ?_
  refine Ev_putI rfl (by first | rfl | assumption) ⟨rfl, rfl⟩ rfl ?_
  refine Ev_aload rfl rfl rfl ?_
  refine Ev_dup rfl (fun _ q => nomatch q) ?_
  refine Ev_getI rfl (by first | rfl | assumption) ?_
  refine Ev_norm (by rw [sR_0, pk_un (by decide), c54.2.2 _ rfl, ← eo]; exact hq1.2.1 : _ = nI (o - 1 + 1)) ?_
  refine Ev_const rfl ?_
  refine Ev_isub rfl ?_
  refine Ev_norm (pk_s1 (o - 1)) ?_
  refine Ev_putI rfl (by first | rfl | assumption) ⟨rfl, rfl⟩ rfl ?_
  refine Ev_aload rfl rfl rfl ?_
  refine Ev_getR rfl (by first | rfl | assumption) (hρ _ _ _ rfl) ?_
  refine Ev_aload rfl rfl rfl ?_
  refine Ev_getI rfl (by first | rfl | assumption) ?_
  refine Ev_norm (by rw [sR_0, pk_un (by decide), sR_0, pk_us] : _ = nI (tl ++ v).length) ?_
  refine Ev_iald rfl (by first | rfl | assumption) (vp_in_nI (n := (tl ++ v).length) (show (tl ++ v).length < 1700 by omega) (by decide)) ?_
  refine Ev_norm (by rw [nI_clamp (by omega), sR_1 _ _ (by decide), sR_1 _ _ (by decide)]; exact s54.2.2.2.1 : _ = nI (ec b)) ?_
  refine Ev_const rfl ?_
  have hp4 : MPc (sI (sI σ54 326 (upd (σ54.1 326) 102 (nI (tl ++ v).length))) 326 (upd ((sI σ54 326 (upd (σ54.1 326) 102 (nI (tl ++ v).length))).1 326) 103 (nI (o - 1)))) (out ++ opA w) (tl ++ v) := ⟨by rw [sR_0, pk_un (by decide), sR_0, pk_un (by decide)]; exact s54.1, by rw [sR_1 _ _ (by decide), sR_1 _ _ (by decide)]; exact s54.2.1, by rw [sR_0, pk_un (by decide), sR_0, pk_us], by rw [sR_1 _ _ (by decide), sR_1 _ _ (by decide)]; exact s54.2.2.2.2⟩
  have hm4 : MZ (sI σ 326 (upd (σ.1 326) 2 (nI (a + 1)))) (sI (sI σ54 326 (upd (σ54.1 326) 102 (nI (tl ++ v).length))) 326 (upd ((sI σ54 326 (upd (σ54.1 326) 102 (nI (tl ++ v).length))).1 326) 103 (nI (o - 1)))) := MF.tr c54.z ((MF.put _ rfl).tr (MF.put _ rfl))
  have hb4 : (sI (sI σ54 326 (upd (σ54.1 326) 102 (nI (tl ++ v).length))) 326 (upd ((sI σ54 326 (upd (σ54.1 326) 102 (nI (tl ++ v).length))).1 326) 103 (nI (o - 1)))).1 326 104 = nI v.length := by rw [sR_0, pk_un (by decide), sR_0, pk_un (by decide), c54.2.2 _ rfl, sR_0, pk_un (by decide)]; exact hb
  have ho4 : (sI (sI σ54 326 (upd (σ54.1 326) 102 (nI (tl ++ v).length))) 326 (upd ((sI σ54 326 (upd (σ54.1 326) 102 (nI (tl ++ v).length))).1 326) 103 (nI (o - 1)))).1 326 103 = nI (o - 1) := by rw [sR_0, pk_us]
  have hc4 : MB σ (sI (sI σ54 326 (upd (σ54.1 326) 102 (nI (tl ++ v).length))) 326 (upd ((sI σ54 326 (upd (σ54.1 326) 102 (nI (tl ++ v).length))).1 326) 103 (nI (o - 1)))) := (mx_put (σ := σ) (f := 2) (nI (a + 1)) rfl).b.tr (hm4.b (by rw [hb4, sR_0, pk_un (by decide), hb]))
  refine Ev_icmp_eq rfl (fun h88 => ?_) (fun h88 => ?_)
  · exact fin _ (s1.mz hm4) (by
    have hz : b = 1020 := by
      rcases hB with z | z | z
      · exact z
      · rw [z] at h88; exact absurd h88 (by decide)
      · rw [z] at h88; exact absurd h88 (by decide)
    rw [hz]; show MPc _ (out ++ opA w ++ []) _; rw [List.append_nil]; exact hp4) ho4 hb4 hc4
  · refine Ev_aload rfl rfl rfl ?_
    refine Ev_aload rfl rfl rfl ?_
    refine Ev_getR rfl (by first | rfl | assumption) (hρ _ _ _ rfl) ?_
    refine Ev_aload rfl rfl rfl ?_
    refine Ev_getI rfl (by first | rfl | assumption) ?_
    refine Ev_norm (by rw [sR_0, pk_un (by decide), sR_0, pk_us] : _ = nI (tl ++ v).length) ?_
    refine Ev_iald rfl (by first | rfl | assumption) (vp_in_nI (n := (tl ++ v).length) (show (tl ++ v).length < 1700 by omega) (by decide)) ?_
    refine Ev_norm (by rw [nI_clamp (by omega), sR_1 _ _ (by decide), sR_1 _ _ (by decide)]; exact s54.2.2.2.1 : _ = nI (ec b)) ?_
    refine Ev_const rfl ?_
    refine Ev_icmp_ne rfl (fun h103 => ?_) (fun h103 => ?_)
    · refine Ev_const rfl ?_
      refine Ev_norm (rfl : _ = nI (mc 46)) ?_
      refine Ev_callV rfl rfl rfl rfl rfl (same_n 402) (m_qCode _ (t := 46) hρ hp4 (by rw [List.length_append]; omega)) ?_
      rintro v112 ρ112 σ112 ⟨rfl, e112, s112, c112⟩
      obtain rfl := e112.symm
      exact fin σ112 ((s1.mz hm4).mz c112.z) (by
      have hz : b = 1024 := by
        rcases hB with z | z | z
        · rw [z] at h88; exact absurd rfl h88
        · rw [z] at h103; exact absurd rfl h103
        · exact z
      rw [hz]; exact s112) (by rw [c112.2.2 _ rfl]; exact ho4) (by rw [c112.2.2 _ rfl]; exact hb4) (hc4.tr c112.b)
    · refine Ev_const rfl ?_
      refine Ev_norm (rfl : _ = nI (mc 45)) ?_
      refine Ev_goto rfl ?_
      refine Ev_callV rfl rfl rfl rfl rfl (same_n 402) (m_qCode _ (t := 45) hρ hp4 (by rw [List.length_append]; omega)) ?_
      rintro v112 ρ112 σ112 ⟨rfl, e112, s112, c112⟩
      obtain rfl := e112.symm
      exact fin σ112 ((s1.mz hm4).mz c112.z) (by
      have hz : b = 1023 := by
        rcases hB with z | z | z
        · rw [z] at h88; exact absurd rfl h88
        · exact z
        · rw [z] at h103; exact absurd (Decidable.not_not.mp h103) (by decide)
      rw [hz]; exact s112) (by rw [c112.2.2 _ rfl]; exact ho4) (by rw [c112.2.2 _ rfl]; exact hb4) (hc4.tr c112.b)
end S88zh
