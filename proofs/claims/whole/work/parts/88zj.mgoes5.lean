/-! A formula read by the reference: what goes on behind a part, the whole walk. -/
theorem brk_is : ∀ u, okS u → brk u ≠ 0 → isBr (brk u) = true := by
  intro u
  induction u with
  | nil => intro _ z; exact absurd rfl z
  | cons e u ih =>
    intro ho z
    cases hp : isBr e with
    | true => rw [(brk_y hp).1]; exact hp
    | false => rw [(brk_n hp).1] at z ⊢; exact ih (okS_c ho).2 z
theorem brI_eq {w : List Nat} {c : Nat} (ho : okS w) (hc : 0 < c ∧ c < 100) : brI w = nI c ↔ brk w = 1000 + c := by
  by_cases h : brk w = 0
  · rw [show brI w = -1 from if_pos h, h]
    exact ⟨fun z => absurd z.symm (nI_m1 (by omega)), fun z => by omega⟩
  · have hbr := brk_is w ho h
    unfold isBr at hbr
    rw [Bool.and_eq_true, Nat.ble_eq, Nat.ble_eq] at hbr
    rw [show brI w = nI (brk w - 1000) from if_neg h, nI_eq (by omega) (by omega)]
    omega
section S88zj
variable {l : Launch} {X : Cx} {ρ : Rf} {U : Tx}
theorem mTs_sk (U : Tx) (c : Nat) (p : Nat × Nat) : mC U (skM U (.inr p)) = mC U (.inr p) ∧ mTs U c (skM U (.inr p)) = if mC U (.inr p) = some c then .inr (skp U p.1 + 1, 0) else skM U (.inr p) := by
  have sk := skM_i U (.inr p)
  refine ⟨sk.2.1, ?_⟩
  unfold mTs
  rw [sk.2.1, sk.1]
  rfl
theorem m_goRest (d : Nat) {σ : St} {v out w : List Nat} {o k f : Nat} {p : Nat × Nat} {r : Ys} (hρ : RF ρ) (hT : TxW U) (hv : okT v) (H : MTt σ U (skM U (.inr p))) (hb : σ.1 326 104 = nI v.length) (hq : MPq σ out (w ++ v) o) (ho : okS w) (hl : out.length + (w ++ v).length ≤ p.1) (hp : p.1 ≤ U.1)
    (hn : ¬ (mC U (.inr p) = some 41 ∧ (brk w = 1020 ∨ brk w = 1023 ∨ brk w = 1024))) (hr : runY U k f (stB U (.inr p, out, w, o)) = some r) (L1 : Value) :
    Ev l X (d + 4) 274 122 [.ref 326, L1] [] 402 402 402 ρ σ (fun v' ρ' σ' => ρ' = ρ ∧ MB σ σ' ∧ ((v' = some (.int 1) ∧ ∃ y', isOk y'.1 = true ∧ runY U k f (0, y') = some r ∧ MYs σ' U v y') ∨ (v' = some (.int 0) ∧ MYs σ' U v r))) := by
  have h16 := hT.1
  have hup := skp_up U p.1
  have ts := fun c => mTs_sk U c p
  have hl2 : out.length + (w ++ v).length ≤ skp U p.1 := by omega
  have r2 : ∀ y, runY U k f (2, y) = some r → y = r := fun y h => by
    cases f with
    | zero => cases h
    | succ f =>
      have h : (if isOk y.1 = false ∨ (2 : Nat) = 2 then some y else _) = some r := h
      rw [if_pos (Or.inr rfl)] at h
      exact Option.some.inj h
  by_cases h1 : mC U (.inr p) = some 42 ∨ mC U (.inr p) = some 47
  · have eS : stB U (.inr p, out, w, o) = (0, (.inr (skp U p.1 + 1, 0), out ++ tkW isMu w, (if mC U (.inr p) = some 42 then 38 else 39) :: drW isMu w, o)) := by
      unfold stB; rw [if_neg hn, if_pos h1]; rfl
    rw [eS] at hr
    have hat : skp U p.1 < U.1 := h1.elim (fun z => (mC_at z).1) (fun z => (mC_at z).1)
    have h42 : (if U.2 (skp U p.1) = 42 then 38 else 39) = (if mC U (.inr p) = some 42 then 38 else 39) := by
      rcases h1 with z | z
      · rw [(mC_at z).2, z]; rfl
      · rw [(mC_at z).2, z]; rfl
    have fin : ∀ σ2, MTt σ2 U (.inr (skp U p.1 + 1, 0)) → MX σ σ2 → Ev l X (d + 4) 274 140 [.ref 326, L1] [] 402 402 402 ρ σ2 (fun v' ρ' σ' => ρ' = ρ ∧ MB σ σ' ∧ ((v' = some (.int 1) ∧ ∃ y', isOk y'.1 = true ∧ runY U k f (0, y') = some r ∧ MYs σ' U v y') ∨ (v' = some (.int 0) ∧ MYs σ' U v r))) := fun σ2 s2 c2 => by
      refine (m_goMu (d + 2) hρ hT hv hat s2 (by rw [c2.2.2 _ rfl]; exact hb) (hq.mx c2) ho hl2 L1).mono (fun v' ρ' σ' h => ⟨h.2.1, c2.b.tr h.2.2.2, Or.inl ⟨h.1, _, rfl, hr, ?_⟩⟩)
      rw [← h42]; exact h.2.2.1
    refine Ev_aload rfl rfl rfl ?_
    refine Ev_const rfl ?_
    refine Ev_callV rfl rfl rfl rfl rfl (same_n 402) (m_takesSign _ (c := 42) hρ hT (by decide) H) ?_
    rintro v125 ρ125 σ125 ⟨rfl, e125, s125, c125⟩
    refine Ev_norm (by rw [(ts 42).1] : _ = bI (decide (mC U (.inr p) = some 42))) ?_
    obtain rfl := e125.symm
    rw [(ts 42).2] at s125
    refine Ev_if_ne rfl (fun h128 => ?_) (fun h128 => ?_)
    · rw [if_pos (of_decide_eq_true (rt_of h128))] at s125
      exact fin σ125 s125 c125
    · refine Ev_aload rfl rfl rfl ?_
      refine Ev_const rfl ?_
      rw [if_neg (of_decide_eq_false (ff_of (Decidable.not_not.mp h128)))] at s125
      refine Ev_callV rfl rfl rfl rfl rfl (same_n 402) (m_takesSign _ (c := 47) hρ hT (by decide) s125) ?_
      rintro v134 ρ134 σ134 ⟨rfl, e134, s134, c134⟩
      refine Ev_norm (by rw [(ts 47).1] : _ = bI (decide (mC U (.inr p) = some 47))) ?_
      obtain rfl := e134.symm
      rw [(ts 47).2] at s134
      refine Ev_if_eq rfl (fun h137 => absurd h137 (by rw [decide_eq_true (h1.elim (fun z => absurd z (of_decide_eq_false (ff_of (Decidable.not_not.mp h128)))) id)]; decide)) (fun h137 => ?_)
      rw [if_pos (of_decide_eq_true (rt_of h137))] at s134
      exact fin σ134 s134 (c125.tr c134)
  · have h42 : ¬ mC U (.inr p) = some 42 := fun z => h1 (Or.inl z)
    have h47 : ¬ mC U (.inr p) = some 47 := fun z => h1 (Or.inr z)
    have go : ∀ {Q : Po}, (∀ σ2, MTt σ2 U (skM U (.inr p)) → MX σ σ2 → Ev l X (d + 4) 274 207 [.ref 326, L1] [] 402 402 402 ρ σ2 Q) → Ev l X (d + 4) 274 122 [.ref 326, L1] [] 402 402 402 ρ σ Q := fun hQ => by
      refine Ev_aload rfl rfl rfl ?_
      refine Ev_const rfl ?_
      refine Ev_callV rfl rfl rfl rfl rfl (same_n 402) (m_takesSign _ (c := 42) hρ hT (by decide) H) ?_
      rintro v125 ρ125 σ125 ⟨rfl, e125, s125, c125⟩
      refine Ev_norm (by rw [(ts 42).1, decide_eq_false h42] : _ = bI false) ?_
      obtain rfl := e125.symm
      rw [(ts 42).2, if_neg h42] at s125
      refine Ev_if_ne rfl (fun h128 => absurd rfl h128) (fun h128 => ?_)
      refine Ev_aload rfl rfl rfl ?_
      refine Ev_const rfl ?_
      refine Ev_callV rfl rfl rfl rfl rfl (same_n 402) (m_takesSign _ (c := 47) hρ hT (by decide) s125) ?_
      rintro v134 ρ134 σ134 ⟨rfl, e134, s134, c134⟩
      refine Ev_norm (by rw [(ts 47).1, decide_eq_false h47] : _ = bI false) ?_
      obtain rfl := e134.symm
      rw [(ts 47).2, if_neg h47] at s134
      refine Ev_if_eq rfl (fun h137 => ?_) (fun h137 => absurd rfl h137)
      exact hQ σ134 s134 (c125.tr c134)
    refine go (fun σ0 s0 c0 => ?_)
    by_cases h2 : mC U (.inr p) = some 43 ∨ mC U (.inr p) = some 45
    · have eS : stB U (.inr p, out, w, o) = (0, (.inr (skp U p.1 + 1, 0), out ++ tkW isAr w, (if mC U (.inr p) = some 43 then 36 else 37) :: drW isAr w, o)) := by
        unfold stB; rw [if_neg hn, if_neg h1, if_pos h2]; rfl
      rw [eS] at hr
      have hat : skp U p.1 < U.1 := h2.elim (fun z => (mC_at z).1) (fun z => (mC_at z).1)
      have h43 : (if U.2 (skp U p.1) = 43 then 36 else 37) = (if mC U (.inr p) = some 43 then 36 else 37) := by
        rcases h2 with z | z
        · rw [(mC_at z).2, z]; rfl
        · rw [(mC_at z).2, z]; rfl
      have fin : ∀ σ2, MTt σ2 U (.inr (skp U p.1 + 1, 0)) → MX σ σ2 → Ev l X (d + 4) 274 225 [.ref 326, L1] [] 402 402 402 ρ σ2 (fun v' ρ' σ' => ρ' = ρ ∧ MB σ σ' ∧ ((v' = some (.int 1) ∧ ∃ y', isOk y'.1 = true ∧ runY U k f (0, y') = some r ∧ MYs σ' U v y') ∨ (v' = some (.int 0) ∧ MYs σ' U v r))) := fun σ2 s2 c2 => by
        refine (m_goAr (d + 2) hρ hT hv hat s2 (by rw [c2.2.2 _ rfl]; exact hb) (hq.mx c2) ho hl2 L1).mono (fun v' ρ' σ' h => ⟨h.2.1, c2.b.tr h.2.2.2, Or.inl ⟨h.1, _, rfl, hr, ?_⟩⟩)
        rw [← h43]; exact h.2.2.1
      refine Ev_aload rfl rfl rfl ?_
      refine Ev_const rfl ?_
      refine Ev_callV rfl rfl rfl rfl rfl (same_n 402) (m_takesSign _ (c := 43) hρ hT (by decide) s0) ?_
      rintro v210 ρ210 σ210 ⟨rfl, e210, s210, c210⟩
      refine Ev_norm (by rw [(ts 43).1] : _ = bI (decide (mC U (.inr p) = some 43))) ?_
      obtain rfl := e210.symm
      rw [(ts 43).2] at s210
      refine Ev_if_ne rfl (fun h213 => ?_) (fun h213 => ?_)
      · rw [if_pos (of_decide_eq_true (rt_of h213))] at s210
        exact fin σ210 s210 (c0.tr c210)
      · refine Ev_aload rfl rfl rfl ?_
        refine Ev_const rfl ?_
        rw [if_neg (of_decide_eq_false (ff_of (Decidable.not_not.mp h213)))] at s210
        refine Ev_callV rfl rfl rfl rfl rfl (same_n 402) (m_takesSign _ (c := 45) hρ hT (by decide) s210) ?_
        rintro v219 ρ219 σ219 ⟨rfl, e219, s219, c219⟩
        refine Ev_norm (by rw [(ts 45).1] : _ = bI (decide (mC U (.inr p) = some 45))) ?_
        obtain rfl := e219.symm
        rw [(ts 45).2] at s219
        refine Ev_if_eq rfl (fun h222 => absurd h222 (by rw [decide_eq_true (h2.elim (fun z => absurd z (of_decide_eq_false (ff_of (Decidable.not_not.mp h213)))) id)]; decide)) (fun h222 => ?_)
        rw [if_pos (of_decide_eq_true (rt_of h222))] at s219
        exact fin σ219 s219 ((c0.tr c210).tr c219)
    · have h43 : ¬ mC U (.inr p) = some 43 := fun z => h2 (Or.inl z)
      have h45 : ¬ mC U (.inr p) = some 45 := fun z => h2 (Or.inr z)
      have e21 := brI_eq (c := 21) ho (by decide)
      have e22 := brI_eq (c := 22) ho (by decide)
      have go2 : ∀ {Q : Po}, (∀ σ2, MTt σ2 U (skM U (.inr p)) → MX σ σ2 → Ev l X (d + 4) 274 308 [.ref 326, L1] [] 402 402 402 ρ σ2 Q) → Ev l X (d + 4) 274 207 [.ref 326, L1] [] 402 402 402 ρ σ0 Q := fun hQ => by
        refine Ev_aload rfl rfl rfl ?_
        refine Ev_const rfl ?_
        refine Ev_callV rfl rfl rfl rfl rfl (same_n 402) (m_takesSign _ (c := 43) hρ hT (by decide) s0) ?_
        rintro v210 ρ210 σ210 ⟨rfl, e210, s210, c210⟩
        refine Ev_norm (by rw [(ts 43).1, decide_eq_false h43] : _ = bI false) ?_
        obtain rfl := e210.symm
        rw [(ts 43).2, if_neg h43] at s210
        refine Ev_if_ne rfl (fun h213 => absurd rfl h213) (fun h213 => ?_)
        refine Ev_aload rfl rfl rfl ?_
        refine Ev_const rfl ?_
        refine Ev_callV rfl rfl rfl rfl rfl (same_n 402) (m_takesSign _ (c := 45) hρ hT (by decide) s210) ?_
        rintro v219 ρ219 σ219 ⟨rfl, e219, s219, c219⟩
        refine Ev_norm (by rw [(ts 45).1, decide_eq_false h45] : _ = bI false) ?_
        obtain rfl := e219.symm
        rw [(ts 45).2, if_neg h45] at s219
        refine Ev_if_eq rfl (fun h222 => ?_) (fun h222 => absurd rfl h222)
        exact hQ σ219 s219 ((c0.tr c210).tr c219)
      refine go2 (fun σ1 s1 c1 => ?_)
      have hq1 := hq.mx c1
      have hb1 : σ1.1 326 104 = nI v.length := by rw [c1.2.2 _ rfl]; exact hb
      by_cases h3 : brk w = 1021 ∨ brk w = 1022
      · have hmc : mC U (.inr (skp U p.1, tcN U p.1 p.2)) = mC U (.inr p) := (skM_i U (.inr p)).2.1
        have hsk : skM U (.inr (skp U p.1, tcN U p.1 p.2)) = skM U (.inr p) := (skM_i U (.inr p)).1
        have eS : stB U (.inr p, out, w, o) = if mC U (.inr p) = some 44 then (0, (adv 1 0 (skM U (.inr p)), out ++ opA w, (brk w + 2) :: (rsA w).tail, o)) else (2, (flA 1 0 (skM U (.inr p)), out, w, o)) := by
          unfold stB; rw [if_neg hn, if_neg h1, if_neg h2, if_pos h3]
        rw [eS] at hr
        have fin : Ev l X (d + 4) 274 326 [.ref 326, L1] [] 402 402 402 ρ σ1 (fun v' ρ' σ' => ρ' = ρ ∧ MB σ σ' ∧ ((v' = some (.int 1) ∧ ∃ y', isOk y'.1 = true ∧ runY U k f (0, y') = some r ∧ MYs σ' U v y') ∨ (v' = some (.int 0) ∧ MYs σ' U v r))) := by
          refine (m_goComma d hρ hT s1 hb1 hq1 ho hl2 h3 L1).mono (fun v' ρ' σ' h => ⟨h.1, c1.b.tr h.2.1, ?_⟩)
          rcases h.2.2 with ⟨q1, q2, q3⟩ | ⟨q1, q2, q3⟩
          · rw [hmc] at q1
            rw [if_pos q1] at hr
            rw [hsk] at q3
            exact Or.inl ⟨q2, _, rfl, hr, q3⟩
          · rw [hmc] at q1
            rw [if_neg q1] at hr
            rw [hsk] at q3
            rw [r2 _ hr] at q3
            exact Or.inr ⟨q2, q3⟩
        refine Ev_aload rfl rfl rfl ?_
        refine Ev_callV rfl rfl rfl rfl rfl (same_n 402) (m_qBracket _ (v := v) hρ hq1.1 hb1 (by omega) ho) ?_
        rintro v309 ρ309 σ309 ⟨rfl, e309, g309⟩
        obtain rfl := e309.symm
        obtain rfl := g309.symm
        refine Ev_const rfl ?_
        refine Ev_icmp_eq rfl (fun h314 => ?_) (fun h314 => ?_)
        · exact fin
        · refine Ev_aload rfl rfl rfl ?_
          refine Ev_callV rfl rfl rfl rfl rfl (same_n 402) (m_qBracket _ (v := v) hρ hq1.1 hb1 (by omega) ho) ?_
          rintro v318 ρ318 σ318 ⟨rfl, e318, g318⟩
          obtain rfl := e318.symm
          obtain rfl := g318.symm
          refine Ev_const rfl ?_
          refine Ev_icmp_ne rfl (fun h323 => absurd (e22.mpr (h3.elim (fun z => absurd (e21.mpr z) h314) id)) h323) (fun h323 => ?_)
          exact fin
      · have eS : stB U (.inr p, out, w, o) = (2, if brk w = 0 then (skM U (.inr p), out, w, o) else (flA 1 0 (skM U (.inr p)), out, w, o)) := by
          unfold stB; rw [if_neg hn, if_neg h1, if_neg h2, if_neg h3]
          by_cases h0 : brk w = 0
          · rw [if_pos h0, if_pos h0]
          · rw [if_neg h0, if_neg h0]
        rw [eS] at hr
        have hrr := r2 _ hr
        refine Ev_aload rfl rfl rfl ?_
        refine Ev_callV rfl rfl rfl rfl rfl (same_n 402) (m_qBracket _ (v := v) hρ hq1.1 hb1 (by omega) ho) ?_
        rintro v309 ρ309 σ309 ⟨rfl, e309, g309⟩
        obtain rfl := e309.symm
        obtain rfl := g309.symm
        refine Ev_const rfl ?_
        refine Ev_icmp_eq rfl (fun h314 => absurd (e21.mp h314) (fun z => h3 (Or.inl z))) (fun h314 => ?_)
        refine Ev_aload rfl rfl rfl ?_
        refine Ev_callV rfl rfl rfl rfl rfl (same_n 402) (m_qBracket _ (v := v) hρ hq1.1 hb1 (by omega) ho) ?_
        rintro v318 ρ318 σ318 ⟨rfl, e318, g318⟩
        obtain rfl := e318.symm
        obtain rfl := g318.symm
        refine Ev_const rfl ?_
        refine Ev_icmp_ne rfl (fun h323 => ?_) (fun h323 => absurd (fun z => h3 (Or.inr (e22.mp z))) h323)
        refine (m_goStop d hρ hT s1 hb1 hq1 ho hl2 L1).mono (fun v' ρ' σ' h => ⟨h.1, c1.b.tr h.2.1, Or.inr ⟨h.2.2.1, ?_⟩⟩)
        rw [← hrr]
        have := h.2.2.2
        by_cases h0 : brk w = 0
        · rw [if_pos h0] at this ⊢; exact this
        · rw [if_neg h0] at this ⊢; exact this
end S88zj
