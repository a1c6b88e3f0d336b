/-! A formula read by the reference: what goes on behind a part, the whole walk. -/
section S88zj
variable {l : Launch} {X : Cx} {ρ : Rf} {U : Tx}
theorem mTs_sk (U : Tx) (c : Nat) (p : Nat × Nat) : mC U (skM U (.inr p)) = mC U (.inr p) ∧ mTs U c (skM U (.inr p)) = if mC U (.inr p) = some c then .inr (skp U p.1 + 1, 0) else skM U (.inr p) := by
  have sk := skM_i U (.inr p)
  refine ⟨sk.2.1, ?_⟩
  unfold mTs
  rw [sk.2.1, sk.1]
  rfl
theorem m_goRest (d : Nat) {σ : St} {v out w : List Nat} {o k f : Nat} {p : Nat × Nat} {r : Ys} (hρ : RF ρ) (hT : TxW U) (hv : okT v) (H : MTt σ U (skM U (.inr p))) (hb : σ.1 324 104 = nI v.length) (hq : MPq σ out (w ++ v) o) (ho : okS w) (hl : out.length + (w ++ v).length ≤ p.1) (hp : p.1 ≤ U.1)
    (hn : ¬ (mC U (.inr p) = some 41 ∧ (brk w = 1020 ∨ brk w = 1023 ∨ brk w = 1024))) (hr : runY U k f (stB U (.inr p, out, w, o)) = some r) (L1 : Value) :
    Ev l X (d + 4) 281 122 [.ref 324, L1] [] 400 400 400 ρ σ (fun v' ρ' σ' => ρ' = ρ ∧ MB σ σ' ∧ ((v' = some (.int 1) ∧ ∃ y', isOk y'.1 = true ∧ runY U k f (0, y') = some r ∧ MYs σ' U v y') ∨ (v' = some (.int 0) ∧ MYs σ' U v r))) := by
  have h16 := hT.1
  have hup := skp_up U p.1
  have ts := fun c => mTs_sk U c p
  have hl2 : out.length + (w ++ v).length ≤ skp U p.1 := by omega
  have r2 : ∀ y, runY U k f (2, y) = some r → y = r := fun y h => by
    cases f with
    | zero => cases h
    | succ f =>
      have h : (if isOk y.1 = false ∨ (2 : Nat) = 2 then some y else _) = some r := h
      rw [if_pos (Or.inr rfl)] at h
      exact Option.some.inj h
  by_cases h1 : mC U (.inr p) = some 42 ∨ mC U (.inr p) = some 47
  · have eS : stB U (.inr p, out, w, o) = (0, (.inr (skp U p.1 + 1, 0), out ++ tkW isMu w, (if mC U (.inr p) = some 42 then 38 else 39) :: drW isMu w, o)) := by
      unfold stB; rw [if_neg hn, if_pos h1]; rfl
    rw [eS] at hr
    have hat : skp U p.1 < U.1 := h1.elim (fun z => (mC_at z).1) (fun z => (mC_at z).1)
    have h42 : (if U.2 (skp U p.1) = 42 then 38 else 39) = (if mC U (.inr p) = some 42 then 38 else 39) := by
      rcases h1 with z | z
      · rw [(mC_at z).2, z]; rfl
      · rw [(mC_at z).2, z]; rfl
    have fin : ∀ σ2, MTt σ2 U (.inr (skp U p.1 + 1, 0)) → MX σ σ2 → Ev l X (d + 4) 281 140 [.ref 324, L1] [] 400 400 400 ρ σ2 (fun v' ρ' σ' => ρ' = ρ ∧ MB σ σ' ∧ ((v' = some (.int 1) ∧ ∃ y', isOk y'.1 = true ∧ runY U k f (0, y') = some r ∧ MYs σ' U v y') ∨ (v' = some (.int 0) ∧ MYs σ' U v r))) := fun σ2 s2 c2 => by
      refine (m_goMu (d + 2) hρ hT hv hat s2 (by rw [c2.2.2 _ rfl]; exact hb) (hq.mx c2) ho hl2 L1).mono (fun v' ρ' σ' h => ⟨h.2.1, c2.b.tr h.2.2.2, Or.inl ⟨h.1, _, rfl, hr, ?_⟩⟩)
      rw [← h42]; exact h.2.2.1
    refine Ev_aload rfl rfl rfl ?_
    refine Ev_const rfl ?_
    refine Ev_callV rfl rfl rfl rfl rfl (same_n 400) (m_takesSign _ (c := 42) hρ hT (by decide) H) ?_
    rintro v125 ρ125 σ125 ⟨rfl, e125, s125, c125⟩
    refine Ev_norm (by rw [(ts 42).1] : _ = bI (decide (mC U (.inr p) = some 42))) ?_
    obtain rfl := e125.symm
    rw [(ts 42).2] at s125
    refine Ev_if_ne rfl (fun h128 => ?_) (fun h128 => ?_)
    · rw [if_pos (of_decide_eq_true (rt_of h128))] at s125
      exact fin σ125 s125 c125
    · refine Ev_aload rfl rfl rfl ?_
      refine Ev_const rfl ?_
      rw [if_neg (of_decide_eq_false (ff_of (Decidable.not_not.mp h128)))] at s125
      refine Ev_callV rfl rfl rfl rfl rfl (same_n 400) (m_takesSign _ (c := 47) hρ hT (by decide) s125) ?_
      rintro v134 ρ134 σ134 ⟨rfl, e134, s134, c134⟩
      refine Ev_norm (by rw [(ts 47).1] : _ = bI (decide (mC U (.inr p) = some 47))) ?_
      obtain rfl := e134.symm
      rw [(ts 47).2] at s134
      refine Ev_if_eq rfl (fun h137 => absurd h137 (by rw [decide_eq_true (h1.elim (fun z => absurd z (of_decide_eq_false (ff_of (Decidable.not_not.mp h128)))) id)]; decide)) (fun h137 => ?_)
      rw [if_pos (of_decide_eq_true (rt_of h137))] at s134
      exact fin σ134 s134 (c125.tr c134)
  · have h42 : ¬ mC U (.inr p) = some 42 := fun z => h1 (Or.inl z)
    have h47 : ¬ mC U (.inr p) = some 47 := fun z => h1 (Or.inr z)
    have go : ∀ {Q : Po}, (∀ σ2, MTt σ2 U (skM U (.inr p)) → MX σ σ2 → Ev l X (d + 4) 281 207 [.ref 324, L1] [] 400 400 400 ρ σ2 Q) → Ev l X (d + 4) 281 122 [.ref 324, L1] [] 400 400 400 ρ σ Q := fun hQ => by
      refine Ev_aload rfl rfl rfl ?_
      refine Ev_const rfl ?_
      refine Ev_callV rfl rfl rfl rfl rfl (same_n 400) (m_takesSign _ (c := 42) hρ hT (by decide) H) ?_
      rintro v125 ρ125 σ125 ⟨rfl, e125, s125, c125⟩
      refine Ev_norm (by rw [(ts 42).1, decide_eq_false h42] : _ = bI false) ?_
      obtain rfl := e125.symm
      rw [(ts 42).2, if_neg h42] at s125
      refine Ev_if_ne rfl (fun h128 => absurd rfl h128) (fun h128 => ?_)
      refine Ev_aload rfl rfl rfl ?_
      refine Ev_const rfl ?_
      refine Ev_callV rfl rfl rfl rfl rfl (same_n 400) (m_takesSign _ (c := 47) hρ hT (by decide) s125) ?_
      rintro v134 ρ134 σ134 ⟨rfl, e134, s134, c134⟩
      refine Ev_norm (by rw [(ts 47).1, decide_eq_false h47] : _ = bI false) ?_
      obtain rfl := e134.symm
      rw [(ts 47).2, if_neg h47] at s134
      refine Ev_if_eq rfl (fun h137 => ?_) (fun h137 => absurd rfl h137)
      exact hQ σ134 s134 (c125.tr c134)
    refine go (fun σ0 s0 c0 => ?_)
    by_cases h2 : mC U (.inr p) = some 43 ∨ mC U (.inr p) = some 45
    · have eS : stB U (.inr p, out, w, o) = (0, (.inr (skp U p.1 + 1, 0), out ++ tkW isAr w, (if mC U (.inr p) = some 43 then 36 else 37) :: drW isAr w, o)) := by
        unfold stB; rw [if_neg hn, if_neg h1, if_pos h2]; rfl
      rw [eS] at hr
      have hat : skp U p.1 < U.1 := h2.elim (fun z => (mC_at z).1) (fun z => (mC_at z).1)
      have h43 : (if U.2 (skp U p.1) = 43 then 36 else 37) = (if mC U (.inr p) = some 43 then 36 else 37) := by
        rcases h2 with z | z
        · rw [(mC_at z).2, z]; rfl
        · rw [(mC_at z).2, z]; rfl
      have fin : ∀ σ2, MTt σ2 U (.inr (skp U p.1 + 1, 0)) → MX σ σ2 → Ev l X (d + 4) 281 225 [.ref 324, L1] [] 400 400 400 ρ σ2 (fun v' ρ' σ' => ρ' = ρ ∧ MB σ σ' ∧ ((v' = some (.int 1) ∧ ∃ y', isOk y'.1 = true ∧ runY U k f (0, y') = some r ∧ MYs σ' U v y') ∨ (v' = some (.int 0) ∧ MYs σ' U v r))) := fun σ2 s2 c2 => by
        refine (m_goAr (d + 2) hρ hT hv hat s2 (by rw [c2.2.2 _ rfl]; exact hb) (hq.mx c2) ho hl2 L1).mono (fun v' ρ' σ' h => ⟨h.2.1, c2.b.tr h.2.2.2, Or.inl ⟨h.1, _, rfl, hr, ?_⟩⟩)
        rw [← h43]; exact h.2.2.1
      refine Ev_aload rfl rfl rfl ?_
      refine Ev_const rfl ?_
      refine Ev_callV rfl rfl rfl rfl rfl (same_n 400) (m_takesSign _ (c := 43) hρ hT (by decide) s0) ?_
      rintro v210 ρ210 σ210 ⟨rfl, e210, s210, c210⟩
      refine Ev_norm (by rw [(ts 43).1] : _ = bI (decide (mC U (.inr p) = some 43))) ?_
      obtain rfl := e210.symm
      rw [(ts 43).2] at s210
      refine Ev_if_ne rfl (fun h213 => ?_) (fun h213 => ?_)
      · rw [if_pos (of_decide_eq_true (rt_of h213))] at s210
        exact fin σ210 s210 (c0.tr c210)
      · refine Ev_aload rfl rfl rfl ?_
        refine Ev_const rfl ?_
        rw [if_neg (of_decide_eq_false (ff_of (Decidable.not_not.mp h213)))] at s210
        refine Ev_callV rfl rfl rfl rfl rfl (same_n 400) (m_takesSign _ (c := 45) hρ hT (by decide) s210) ?_
        rintro v219 ρ219 σ219 ⟨rfl, e219, s219, c219⟩
        refine Ev_norm (by rw [(ts 45).1] : _ = bI (decide (mC U (.inr p) = some 45))) ?_
        obtain rfl := e219.symm
        rw [(ts 45).2] at s219
        refine Ev_if_eq rfl (fun h222 => absurd h222 (by rw [decide_eq_true (h2.elim (fun z => absurd z (of_decide_eq_false (ff_of (Decidable.not_not.mp h213)))) id)]; decide)) (fun h222 => ?_)
        rw [if_pos (of_decide_eq_true (rt_of h222))] at s219
        exact fin σ219 s219 ((c0.tr c210).tr c219)
    · sorry
end S88zj
