/-! A formula read by the reference: the loop of sums. -/
theorem runY_r {U : Tx} {k f c : Nat} {y r : Ys} (h : runY U k f (c, y) = some r) (ho : isOk y.1 = false) : y = r := by
  cases f with
  | zero => cases h
  | succ g =>
    have h : (if isOk y.1 = false ∨ c = 2 then some y else runY U k g (if c = 0 then stA U k y else stB U y)) = some r := h
    rw [if_pos (Or.inl ho)] at h
    exact Option.some.inj h
section S88zm
variable {l : Launch} {X : Cx} {ρ : Rf} {U : Tx}
theorem m_sumLoop (d : Nat) {v : List Nat} {k : Nat} {r : Ys} (hρ : RF ρ) (hT : TxW U) (hk : k < 5) (hv : okT v) (L1 : Int32) {Q : Po} {σ0 : St} (hQ : ∀ σ' L2, MYs σ' U v r → MB σ0 σ' → Ev l X (d + 6) 275 53 [.ref 326, .int L1, .int L2] [] 402 402 402 ρ σ' Q) : ∀ (n f : Nat) (y : Ys) (σ : St), f ≤ n → MYs σ U v y → Wds σ → σ.1 326 50 = nI k → MB σ0 σ → runY U k f (0, y) = some r →
    Ev l X (d + 6) 275 15 [.ref 326, .int L1, .int 1] [] 402 402 402 ρ σ Q := by
  intro n
  induction n with
  | zero => intro f y σ hf _ _ _ _ h; obtain rfl : f = 0 := (by omega); cases h
  | succ n ih =>
    intro f y σ hf HY hW hK hM hr
    have inl : ∀ (y : Ys) (σ : St) (L2 : Int32) (c f : Nat), MYs σ U v y → MB σ0 σ → isOk y.1 = false → runY U k f (c, y) = some r → Ev l X (d + 6) 275 53 [.ref 326, .int L1, .int L2] [] 402 402 402 ρ σ Q := fun y σ L2 c f HY hM ho hr => by
      rw [runY_r hr ho] at HY
      exact hQ σ L2 HY hM
    cases hs : y.1 with
    | inl e =>
      obtain ⟨z, hz, hz0⟩ := MTt.badE (e := e) (by rw [← hs]; exact HY.1)
      refine Ev_iload rfl rfl ?_
      refine Ev_if_eq rfl (fun h16 => absurd h16 (show ¬ (1 : Int32) = 0 by decide)) (fun h16 => ?_)
      refine Ev_aload rfl rfl rfl ?_
      refine Ev_getI rfl (by first | rfl | assumption) ?_
      refine Ev_norm hz ?_
      refine Ev_if_ne rfl (fun h23 => ?_) (fun h23 => ?_)
      · exact inl y σ 1 0 f HY hM (by rw [hs]; rfl) hr
      · refine Ev_aload rfl rfl rfl ?_
        exact absurd hz0 h23
    | inr p =>
      have Hp : MTt σ U (.inr p) := by rw [← hs]; exact HY.1
      refine Ev_iload rfl rfl ?_
      refine Ev_if_eq rfl (fun h16 => absurd h16 (show ¬ (1 : Int32) = 0 by decide)) (fun h16 => ?_)
      refine Ev_aload rfl rfl rfl ?_
      refine Ev_getI rfl (by first | rfl | assumption) ?_
      refine Ev_norm Hp.bad0 ?_
      refine Ev_if_ne rfl (fun h23 => absurd rfl h23) (fun h23 => ?_)
      refine Ev_aload rfl rfl rfl ?_
      refine Ev_callV rfl rfl rfl rfl rfl (same_n 402) (m_qPartTold _ hρ hT hk hv HY hW hK hr) ?_
      rintro v27 ρ27 σ27 ⟨rfl, e27, ⟨f1, y1, hf1, hr1, HY1⟩, c27⟩
      obtain rfl := e27.symm
      have hM1 := hM.tr c27
      obtain ⟨s1, o1, w1, n1⟩ := y1
      cases s1 with
      | inl e =>
        obtain ⟨z, hz, hz0⟩ := MTt.badE (e := e) HY1.1
        refine Ev_aload rfl rfl rfl ?_
        refine Ev_getI rfl (by first | rfl | assumption) ?_
        refine Ev_norm hz ?_
        refine Ev_if_ne rfl (fun h34 => ?_) (fun h34 => absurd hz0 h34)
        refine Ev_const rfl ?_
        refine Ev_istore rfl ?_
        refine Ev_goto rfl ?_
        refine Ev_iload rfl rfl ?_
        refine Ev_if_eq rfl (fun h16 => ?_) (fun h16 => absurd rfl h16)
        exact inl _ σ27 0 1 f1 HY1 hM1 rfl hr1
      | inr q =>
        refine Ev_aload rfl rfl rfl ?_
        refine Ev_getI rfl (by first | rfl | assumption) ?_
        refine Ev_norm HY1.1.bad0 ?_
        refine Ev_if_ne rfl (fun h34 => absurd rfl h34) (fun h34 => ?_)
        refine Ev_aload rfl rfl rfl ?_
        refine Ev_callV rfl rfl rfl rfl rfl (same_n 402) (T_of rfl (m_goLoop (d + 1) hρ hT hv f1 q o1 w1 n1 σ27 _ HY1 hr1)) ?_
        rintro v38 ρ38 σ38 ⟨e38, c38, h38⟩
        obtain rfl := e38.symm
        rcases h38 with ⟨rfl, f2, y2, hf2, ho2, hr2, HY2⟩ | ⟨rfl, HY2⟩
        · refine Ev_if_eq rfl (fun h41 => absurd h41 (show ¬ (1 : Int32) = 0 by decide)) (fun h41 => ?_)
          refine Ev_const rfl ?_
          refine Ev_goto rfl ?_
          refine Ev_istore rfl ?_
          refine Ev_goto rfl ?_
          exact ih f2 y2 σ38 (by omega) HY2 (hW.b (c27.tr c38)) (by rw [c38.2.2 _ rfl, c27.2.2 _ rfl]; exact hK) (hM1.tr c38) hr2
        · refine Ev_if_eq rfl (fun h41 => ?_) (fun h41 => absurd rfl h41)
          refine Ev_const rfl ?_
          refine Ev_istore rfl ?_
          refine Ev_goto rfl ?_
          refine Ev_iload rfl rfl ?_
          refine Ev_if_eq rfl (fun h16 => ?_) (fun h16 => absurd rfl h16)
          exact hQ σ38 0 HY2 (hM1.tr c38)
end S88zm
