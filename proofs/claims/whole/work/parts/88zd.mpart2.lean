/-! A formula read by the reference: a part told, the whole walk. -/
theorem mc_sg : ∀ i, i < 9 → mc i = 40 + i := by decide
theorem mc_nu (n : Nat) : mc (256 * n + 32) = 1000 + n := by
  unfold mc
  rw [if_neg (by omega), if_pos (by omega)]
  congr 1
  omega
theorem sgF_wA {k : Nat} (hk : k < 5) {w : List Nat} {i : Nat} (h : sgF k w = some i) : i < 9 ∧ w = wA i := by
  have h1 := (wo_of hk w).2
  rw [h] at h1
  unfold woO at h1
  cases hw : wix w with
  | none => rw [hw] at h1; cases h1
  | some j =>
    rw [hw] at h1
    have h1 : (if 0 ≤ j ∧ j < 9 ∧ alw k j = true then some j else none) = some i := h1
    split at h1
    · cases h1; exact ⟨by omega, (wix_lt hw).2⟩
    · cases h1
theorem ofR_lt {k : Nat} {w : List Nat} {e : Nat} (h : ofR k w = some e) : (e = 34 ∨ e = 35) ∧ w = wA (e - 25) := by
  unfold ofR at h
  split at h
  · rename_i hq; cases h; exact ⟨Or.inl rfl, hq.2⟩
  · split at h
    · rename_i hq; cases h; exact ⟨Or.inr rfl, hq.2⟩
    · cases h
theorem mAk_sk {U : Tx} {s : Rdg} {w : List Nat} (h : mWd U s = w) (hne : w ≠ []) : mAk U w (skM U s) = adv w.length 1 (skM U s) := by
  unfold mAk
  rw [(skM_i U s).2.2.1, if_pos h, (skM_i U s).1]
theorem wd_le {U : Tx} {p : Nat × Nat} {w : List Nat} (hp : p.1 ≤ U.1) (h : mWd U (.inr p) = w) : skp U p.1 + w.length ≤ U.1 := by
  have hle := skp_le hp
  unfold mWd at h
  have h : (if tcN U p.1 p.2 = 0 then wrd U (skp U p.1) else []) = w := h
  split at h
  · rw [← h]; exact wrd_len hle
  · rw [← h]; exact hle
theorem qeY_1 (s : Rdg) : ∀ (w out : List Nat) (o : Nat), (qeY s out w o).1 = s := by
  intro w
  induction w with
  | nil => intro out o; rfl
  | cons e w ih =>
    intro out o
    show (if (e = 34 ∨ e = 35) ∧ isOk s = true then qeY s (out ++ [e]) w (o - 1) else (s, out, e :: w, o)).1 = s
    split
    · exact ih _ _
    · rfl
theorem mNu_sk (U : Tx) (m : Nat) (s : Rdg) : mNu U m (skM U s) = mNu U m s ∧ mDg U (skM U s) = mDg U s := by
  unfold mNu
  rw [(skM_i U s).2.2.2, (skM_i U s).1]
  exact ⟨rfl, rfl⟩
theorem mNu_ok {U : Tx} {m : Nat} {p : Nat × Nat} (h : isOk (mNu U m (.inr p)) = true) : p.1 < rpos (mNu U m (.inr p)) ∧ nval (mDg U (.inr p)) ≤ m := by
  have hup := skp_up U p.1
  unfold mNu at h ⊢
  by_cases h1 : mDg U (.inr p) = []
  · rw [if_pos h1] at h; cases h
  · rw [if_neg h1] at h ⊢
    by_cases h2 : 4 < (mDg U (.inr p)).length
    · rw [if_pos h2] at h; cases h
    · rw [if_neg h2] at h ⊢
      by_cases h3 : m < nval (mDg U (.inr p))
      · rw [if_pos h3] at h; cases h
      · rw [if_neg h3]
        have : 0 < (mDg U (.inr p)).length := by
          cases hc : mDg U (.inr p) with
          | nil => exact absurd hc h1
          | cons a b => exact Nat.succ_pos _
        refine ⟨?_, by omega⟩
        show p.1 < skp U p.1 + (mDg U (.inr p)).length
        omega
section S88zd
variable {l : Launch} {X : Cx} {ρ : Rf} {U : Tx}
/-- behind the turns: a sight or a number -/
theorem m_partEnd (d : Nat) {σ : St} {v : List Nat} {p : Nat × Nat} {out w : List Nat} {o k : Nat} (hρ : RF ρ) (hT : TxW U) (hW : Wds σ) (hk : k < 5) (hK : σ.1 326 50 = nI k) (hv : okT v) (H : MTt σ U (.inr p)) (hb : σ.1 326 104 = nI v.length) (hq : MPq σ out (w ++ v) o) (ho : okS w) (hl : out.length + (w ++ v).length ≤ p.1) (L1 : Int32) (L2 L3 L4 L5 : Value) (y : Ys)
    (hy : y = match sgF k (mWd U (.inr p)) with
      | some i => qeY (adv (mWd U (.inr p)).length 1 (skM U (.inr p))) (out ++ [i]) w o
      | none => qeY (mNu U 9999 (.inr p)) (out ++ [256 * nval (mDg U (.inr p)) + 32]) w o) :
    Ev l X (d + 5) 273 186 [.ref 326, .int L1, L2, L3, L4, L5] [] 402 402 402 ρ σ (fun v' ρ' σ' => v' = none ∧ ρ' = ρ ∧ MYs σ' U v y ∧ MB σ σ') := by
  have h16 := hT.1
  have hp : p.1 ≤ U.1 := H.le
  have hup := skp_up U p.1
  cases hs : sgF k (mWd U (.inr p)) with
  | some i =>
    rw [hs] at hy
    have hy : y = qeY (adv (mWd U (.inr p)).length 1 (skM U (.inr p))) (out ++ [i]) w o := hy
    obtain ⟨hi, hwi⟩ := sgF_wA hk hs
    have hwo := (wo_of hk (mWd U (.inr p))).2.trans hs
    have hne : wA i ≠ [] := (show ∀ i, i < 9 → wA i ≠ [] by decide) i hi
    have hlen := wd_le hp hwi
    have hpos : 0 < (wA i).length := by rcases hc : wA i with _ | ⟨a, b⟩; exact absurd hc hne; exact Nat.succ_pos _
    refine Ev_aload rfl rfl rfl ?_
    refine Ev_getI rfl (by first | rfl | assumption) ?_
    refine Ev_norm H.bad0 ?_
    refine Ev_if_eq rfl (fun h190 => ?_) (fun h190 => absurd rfl h190)
    refine Ev_aload rfl rfl rfl ?_
    refine Ev_const rfl ?_
    refine Ev_const rfl ?_
    refine Ev_callV rfl rfl rfl rfl rfl (same_n 402) (m_qWordOf _ (k := k) (lo := 0) (hi := 9) hρ hT hW H hK hk (by decide) (by decide)) ?_
    rintro v198 ρ198 σ198 ⟨rfl, e198, s198, c198⟩
    refine Ev_norm (by rw [hwo]; rfl : _ = nI i) ?_
    obtain rfl := e198.symm
    refine Ev_istore rfl ?_
    refine Ev_iload rfl rfl ?_
    refine Ev_const rfl ?_
    refine Ev_icmp_eq rfl (fun h204 => absurd h204 (nI_m1 (by omega))) (fun h204 => ?_)
    refine Ev_aload rfl rfl rfl ?_
    refine Ev_iload rfl rfl ?_
    refine Ev_callV rfl rfl rfl rfl rfl (same_n 402) (m_qAsksWord _ (i := i) hρ hT (hW.mx c198) s198 (by omega)) ?_
    rintro v209 ρ209 σ209 ⟨rfl, e209, s209, c209⟩
    obtain rfl := e209.symm
    rw [mAk_sk hwi hne] at s209
    refine Ev_aload rfl rfl rfl ?_
    refine Ev_iload rfl rfl ?_
    refine Ev_const rfl ?_
    refine Ev_icmp_eq rfl (fun h215 => absurd h215 (nI_m1 (by omega))) (fun h215 => ?_)
    refine Ev_const rfl ?_
    refine Ev_iload rfl rfl ?_
    refine Ev_iadd rfl ?_
    refine Ev_norm (by rw [mc_sg i hi]; exact nI_add 40 i : _ = nI (mc i)) ?_
    refine Ev_goto rfl ?_
    refine Ev_callV rfl rfl rfl rfl rfl (same_n 402) (m_qCode _ (t := i) hρ ((hq.mx c198).mx c209).1 (by omega)) ?_
    rintro v237 ρ237 σ237 ⟨rfl, e237, s237, c237⟩
    obtain rfl := e237.symm
    refine Ev_aload rfl rfl rfl ?_
    refine Ev_callV rfl rfl rfl rfl rfl (same_n 402) (T_of rfl (m_qEndsPart _ (v := v) hρ hT hv w (out ++ [i]) o (adv (wA i).length 1 (skM U (.inr p))) σ237 (s209.mz c237.z) (by rw [c237.2.2 _ rfl, c209.2.2 _ rfl, c198.2.2 _ rfl]; exact hb) (fun _ => ⟨⟨s237, by rw [c237.2.2 _ rfl]; exact ((hq.mx c198).mx c209).2.1, hq.2.2⟩, ho, by rw [List.length_append]; show out.length + 1 + _ < _; omega⟩))) ?_
    rintro v241 ρ241 σ241 ⟨rfl, e241, s241, b241, q241, c241, d241⟩
    obtain rfl := e241.symm
    exact Ev_return rfl rfl rfl (by
    rw [hwi] at hy
    have e1 : (qeY (adv (wA i).length 1 (skM U (.inr p))) (out ++ [i]) w o).1 = adv (wA i).length 1 (skM U (.inr p)) := qeY_1 _ _ _ _
    refine ⟨rfl, rfl, ⟨?_, b241, fun z => ?_, fun z => by rw [hy, e1] at z; cases z⟩, (c198.b.tr c209.b).tr (c237.b.tr (c241.b ?_))⟩
    · rw [hy, e1]; exact s241
    · rw [hy] at z ⊢
      rw [e1] at z ⊢
      obtain ⟨z1, z2, z3⟩ := q241 z
      refine ⟨z1, z2, ?_⟩
      rw [z3, List.length_append]
      show out.length + 1 + _ ≤ skp U p.1 + (wA i).length
      omega
    · rw [b241, c237.2.2 _ rfl, c209.2.2 _ rfl, c198.2.2 _ rfl, hb])
  | none =>
    rw [hs] at hy
    have hy : y = qeY (mNu U 9999 (.inr p)) (out ++ [256 * nval (mDg U (.inr p)) + 32]) w o := hy
    have hwo := (wo_of hk (mWd U (.inr p))).2.trans hs
    have nk := mNu_sk U 9999 (.inr p)
    refine Ev_aload rfl rfl rfl ?_
    refine Ev_getI rfl (by first | rfl | assumption) ?_
    refine Ev_norm H.bad0 ?_
    refine Ev_if_eq rfl (fun h190 => ?_) (fun h190 => absurd rfl h190)
    refine Ev_aload rfl rfl rfl ?_
    refine Ev_const rfl ?_
    refine Ev_const rfl ?_
    refine Ev_callV rfl rfl rfl rfl rfl (same_n 402) (m_qWordOf _ (k := k) (lo := 0) (hi := 9) hρ hT hW H hK hk (by decide) (by decide)) ?_
    rintro v198 ρ198 σ198 ⟨rfl, e198, s198, c198⟩
    refine Ev_norm (by rw [hwo]; rfl : _ = (-1 : Int32)) ?_
    obtain rfl := e198.symm
    refine Ev_istore rfl ?_
    refine Ev_iload rfl rfl ?_
    refine Ev_const rfl ?_
    refine Ev_icmp_eq rfl (fun h204 => ?_) (fun h204 => absurd rfl h204)
    refine Ev_aload rfl rfl rfl ?_
    refine Ev_iload rfl rfl ?_
    refine Ev_const rfl ?_
    refine Ev_icmp_eq rfl (fun h215 => ?_) (fun h215 => absurd rfl h215)
    refine Ev_const rfl ?_
    refine Ev_aload rfl rfl rfl ?_
    refine Ev_const rfl ?_
    refine Ev_const rfl ?_
    refine Ev_callV rfl rfl rfl rfl rfl (same_n 402) (m_number _ (most := 9999) hρ hT (by decide) s198) ?_
    rintro v233 ρ233 σ233 ⟨⟨x, rfl, hx⟩, e233, s233, c233⟩
    obtain rfl := e233.symm
    rw [nk.1] at s233 hx
    rw [nk.2] at hx
    have hcm := (hq.mx c198).mx c233
    have hbb : σ233.1 326 104 = nI v.length := by rw [c233.2.2 _ rfl, c198.2.2 _ rfl]; exact hb
    cases hok : isOk (mNu U 9999 (.inr p)) with
    | true =>
      obtain ⟨n1, n2⟩ := mNu_ok hok
      obtain rfl := hx hok
      refine Ev_iadd rfl ?_
      refine Ev_norm (by rw [mc_nu]; exact nI_add 1000 _ : _ = nI (mc (256 * nval (mDg U (.inr p)) + 32))) ?_
      refine Ev_callV rfl rfl rfl rfl rfl (same_n 402) (m_qCode _ (t := 256 * nval (mDg U (.inr p)) + 32) hρ hcm.1 (by omega)) ?_
      rintro v237 ρ237 σ237 ⟨rfl, e237, s237, c237⟩
      obtain rfl := e237.symm
      refine Ev_aload rfl rfl rfl ?_
      refine Ev_callV rfl rfl rfl rfl rfl (same_n 402) (T_of rfl (m_qEndsPart _ (v := v) hρ hT hv w (out ++ [256 * nval (mDg U (.inr p)) + 32]) o (mNu U 9999 (.inr p)) σ237 (s233.mz c237.z) (by rw [c237.2.2 _ rfl]; exact hbb) (fun _ => ⟨⟨s237, by rw [c237.2.2 _ rfl]; exact hcm.2.1, hq.2.2⟩, ho, by rw [List.length_append]; show out.length + 1 + _ < _; omega⟩))) ?_
      rintro v241 ρ241 σ241 ⟨rfl, e241, s241, b241, q241, c241, d241⟩
      obtain rfl := e241.symm
      exact Ev_return rfl rfl rfl (by
      have e1 : (qeY (mNu U 9999 (.inr p)) (out ++ [256 * nval (mDg U (.inr p)) + 32]) w o).1 = mNu U 9999 (.inr p) := qeY_1 _ _ _ _
      refine ⟨rfl, rfl, ⟨?_, b241, fun z => ?_, fun z => by rw [hy, e1, hok] at z; cases z⟩, (c198.b.tr c233.b).tr (c237.b.tr (c241.b ?_))⟩
      · rw [hy, e1]; exact s241
      · rw [hy] at z ⊢
        rw [e1] at z ⊢
        obtain ⟨z1, z2, z3⟩ := q241 z
        refine ⟨z1, z2, ?_⟩
        rw [z3, List.length_append]
        show out.length + 1 + _ ≤ _
        omega
      · rw [b241, c237.2.2 _ rfl, hbb])
    | false =>
      refine Ev_iadd rfl ?_
      refine Ev_callV rfl rfl rfl rfl rfl (same_n 402) (m_qCodeX _ hρ hcm.1.1 (by omega)) ?_
      rintro v237 ρ237 σ237 ⟨rfl, e237, c237, d237⟩
      obtain rfl := e237.symm
      refine Ev_aload rfl rfl rfl ?_
      refine Ev_callV rfl rfl rfl rfl rfl (same_n 402) (T_of rfl (m_qEndsPart _ (v := v) hρ hT hv w (out ++ [256 * nval (mDg U (.inr p)) + 32]) o (mNu U 9999 (.inr p)) σ237 (s233.mz c237.z) (by rw [c237.2.2 _ rfl]; exact hbb) (fun z => by rw [hok] at z; cases z))) ?_
      rintro v241 ρ241 σ241 ⟨rfl, e241, s241, b241, q241, c241, d241⟩
      obtain rfl := e241.symm
      exact Ev_return rfl rfl rfl (by
      have e1 : (qeY (mNu U 9999 (.inr p)) (out ++ [256 * nval (mDg U (.inr p)) + 32]) w o).1 = mNu U 9999 (.inr p) := qeY_1 _ _ _ _
      refine ⟨rfl, rfl, ⟨?_, b241, fun z => ?_, fun _ => ⟨out.length + 1, by omega, by rw [d241 hok, d237]⟩⟩, (c198.b.tr c233.b).tr (c237.b.tr (c241.b ?_))⟩
      · rw [hy, e1]; exact s241
      · rw [hy, e1, hok] at z; cases z
      · rw [b241, c237.2.2 _ rfl, hbb])
end S88zd
