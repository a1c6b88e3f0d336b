/-! A formula read by the reference: what goes on behind a part, the loop. -/
section S88zk
variable {l : Launch} {X : Cx} {ρ : Rf} {U : Tx}
theorem m_goLoop (d : Nat) {v : List Nat} {k : Nat} {r : Ys} (hρ : RF ρ) (hT : TxW U) (hv : okT v) : ∀ (f : Nat) (p : Nat × Nat) (out w : List Nat) (o : Nat) (σ : St) (L1 : Value), MYs σ U v (.inr p, out, w, o) → runY U k f (1, (.inr p, out, w, o)) = some r →
    Ev l X (d + 4) 274 0 [.ref 326, L1] [] 402 402 402 ρ σ (fun v' ρ' σ' => ρ' = ρ ∧ MB σ σ' ∧ ((v' = some (.int 1) ∧ ∃ f' y', f' < f ∧ isOk y'.1 = true ∧ runY U k f' (0, y') = some r ∧ MYs σ' U v y') ∨ (v' = some (.int 0) ∧ MYs σ' U v r))) := by
  have h16 := hT.1
  intro f
  induction f with
  | zero => intro p out w o σ _ _ h; cases h
  | succ f ih =>
    intro p out w o σ L1 HY hr
    obtain ⟨H, hb, hq⟩ := HY
    have H : MTt σ U (.inr p) := H
    obtain ⟨hq, ho, hl⟩ := hq.1 rfl
    have hq : MPq σ out (w ++ v) o := hq
    have ho : okS w := ho
    have hl : out.length + (w ++ v).length ≤ p.1 := hl
    obtain ⟨g, hg, hr⟩ := runY_s hr rfl (by decide)
    obtain rfl : f = g := by omega
    have hr : runY U k f (stB U (.inr p, out, w, o)) = some r := hr
    have hp : p.1 ≤ U.1 := H.le
    have hup := skp_up U p.1
    have hev := lkV_eq (mC_256 hT (s := .inr p)) (show 41 < 256 by decide)
    have e20 := brI_eq (c := 20) ho (by decide)
    have e23 := brI_eq (c := 23) ho (by decide)
    have e24 := brI_eq (c := 24) ho (by decide)
    by_cases hn : mC U (.inr p) = some 41 ∧ (brk w = 1020 ∨ brk w = 1023 ∨ brk w = 1024)
    · have eS : stB U (.inr p, out, w, o) = (1, qeY (.inr (skp U p.1 + 1, 0)) ((out ++ opA w) ++ brX (brk w)) ((rsA w).tail) (o - 1)) := by
        unfold stB; rw [if_pos hn]; rfl
      rw [eS] at hr
      have fin : ∀ σ2, MTt σ2 U (skM U (.inr p)) → MX σ σ2 → Ev l X (d + 4) 274 43 [.ref 326, L1] [] 402 402 402 ρ σ2 (fun v' ρ' σ' => ρ' = ρ ∧ MB σ σ' ∧ ((v' = some (.int 1) ∧ ∃ f' y', f' < f + 1 ∧ isOk y'.1 = true ∧ runY U k f' (0, y') = some r ∧ MYs σ' U v y') ∨ (v' = some (.int 0) ∧ MYs σ' U v r))) := fun σ2 s2 c2 => by
        refine m_goBr d hρ hT hv (mC_at hn.1).1 s2 (by rw [c2.2.2 _ rfl]; exact hb) (hq.mx c2) ho (by omega) hn.2 L1 (fun σ3 y3 c3 => ?_)
        have e1 := qeY_1 (.inr (skp U p.1 + 1, 0)) ((rsA w).tail) ((out ++ opA w) ++ brX (brk w)) (o - 1)
        generalize qeY (.inr (skp U p.1 + 1, 0)) ((out ++ opA w) ++ brX (brk w)) ((rsA w).tail) (o - 1) = y at *
        obtain ⟨ys, yo, yw, yn⟩ := y
        obtain rfl : ys = .inr (skp U p.1 + 1, 0) := e1
        refine (ih _ yo yw yn σ3 L1 y3 hr).mono (fun v' ρ' σ' h => ⟨h.1, (c2.b.tr c3).tr h.2.1, ?_⟩)
        rcases h.2.2 with ⟨q1, f', y', q2, q3⟩ | q
        · exact Or.inl ⟨q1, f', y', by omega, q3⟩
        · exact Or.inr q
      refine Ev_aload rfl rfl rfl ?_
      refine Ev_getI rfl (by first | rfl | assumption) ?_
      refine Ev_norm H.bad0 ?_
      refine Ev_if_ne rfl (fun h4 => absurd rfl h4) (fun h4 => ?_)
      refine Ev_aload rfl rfl rfl ?_
      refine Ev_callV rfl rfl rfl rfl rfl (same_n 402) (m_look _ hρ hT H) ?_
      rintro v8 ρ8 σ8 ⟨⟨x, rfl, hx⟩, e8, s8, c8⟩
      obtain rfl := e8.symm
      have hx := hx rfl
      subst hx
      refine Ev_const rfl ?_
      refine Ev_icmp_ne rfl (fun h13 => absurd (hev.mpr hn.1) h13) (fun h13 => ?_)
      refine Ev_aload rfl rfl rfl ?_
      refine Ev_callV rfl rfl rfl rfl rfl (same_n 402) (m_qBracket _ (v := v) hρ (hq.mx c8).1 (by rw [c8.2.2 _ rfl]; exact hb) (by omega) ho) ?_
      rintro v17 ρ17 σ17 ⟨rfl, e17, g17⟩
      obtain rfl := e17.symm
      obtain rfl := g17.symm
      refine Ev_const rfl ?_
      refine Ev_icmp_eq rfl (fun h22 => ?_) (fun h22 => ?_)
      · exact fin σ8 s8 c8
      · refine Ev_aload rfl rfl rfl ?_
        refine Ev_callV rfl rfl rfl rfl rfl (same_n 402) (m_qBracket _ (v := v) hρ (hq.mx c8).1 (by rw [c8.2.2 _ rfl]; exact hb) (by omega) ho) ?_
        rintro v26 ρ26 σ26 ⟨rfl, e26, g26⟩
        obtain rfl := e26.symm
        obtain rfl := g26.symm
        refine Ev_const rfl ?_
        refine Ev_icmp_eq rfl (fun h31 => ?_) (fun h31 => ?_)
        · exact fin σ8 s8 c8
        · refine Ev_aload rfl rfl rfl ?_
          refine Ev_callV rfl rfl rfl rfl rfl (same_n 402) (m_qBracket _ (v := v) hρ (hq.mx c8).1 (by rw [c8.2.2 _ rfl]; exact hb) (by omega) ho) ?_
          rintro v35 ρ35 σ35 ⟨rfl, e35, g35⟩
          obtain rfl := e35.symm
          obtain rfl := g35.symm
          refine Ev_const rfl ?_
          refine Ev_icmp_ne rfl (fun h40 => absurd (e24.mpr (hn.2.elim (fun z => absurd (e20.mpr z) h22) (fun z => z.elim (fun z => absurd (e23.mpr z) h31) id))) h40) (fun h40 => ?_)
          exact fin σ8 s8 c8
    · have fin : ∀ σ2, MTt σ2 U (skM U (.inr p)) → MX σ σ2 → Ev l X (d + 4) 274 122 [.ref 326, L1] [] 402 402 402 ρ σ2 (fun v' ρ' σ' => ρ' = ρ ∧ MB σ σ' ∧ ((v' = some (.int 1) ∧ ∃ f' y', f' < f + 1 ∧ isOk y'.1 = true ∧ runY U k f' (0, y') = some r ∧ MYs σ' U v y') ∨ (v' = some (.int 0) ∧ MYs σ' U v r))) := fun σ2 s2 c2 => by
        refine (m_goRest d (f := f) hρ hT hv s2 (by rw [c2.2.2 _ rfl]; exact hb) (hq.mx c2) ho hl hp hn hr L1).mono (fun v' ρ' σ' h => ⟨h.1, c2.b.tr h.2.1, ?_⟩)
        rcases h.2.2 with ⟨q1, y', q3⟩ | q
        · exact Or.inl ⟨q1, f, y', by omega, q3⟩
        · exact Or.inr q
      refine Ev_aload rfl rfl rfl ?_
      refine Ev_getI rfl (by first | rfl | assumption) ?_
      refine Ev_norm H.bad0 ?_
      refine Ev_if_ne rfl (fun h4 => absurd rfl h4) (fun h4 => ?_)
      refine Ev_aload rfl rfl rfl ?_
      refine Ev_callV rfl rfl rfl rfl rfl (same_n 402) (m_look _ hρ hT H) ?_
      rintro v8 ρ8 σ8 ⟨⟨x, rfl, hx⟩, e8, s8, c8⟩
      obtain rfl := e8.symm
      have hx := hx rfl
      subst hx
      refine Ev_const rfl ?_
      refine Ev_icmp_ne rfl (fun h13 => ?_) (fun h13 => ?_)
      · exact fin σ8 s8 c8
      · refine Ev_aload rfl rfl rfl ?_
        refine Ev_callV rfl rfl rfl rfl rfl (same_n 402) (m_qBracket _ (v := v) hρ (hq.mx c8).1 (by rw [c8.2.2 _ rfl]; exact hb) (by omega) ho) ?_
        rintro v17 ρ17 σ17 ⟨rfl, e17, g17⟩
        obtain rfl := e17.symm
        obtain rfl := g17.symm
        refine Ev_const rfl ?_
        refine Ev_icmp_eq rfl (fun h22 => absurd ⟨hev.mp (Decidable.not_not.mp h13), Or.inl (e20.mp h22)⟩ hn) (fun h22 => ?_)
        refine Ev_aload rfl rfl rfl ?_
        refine Ev_callV rfl rfl rfl rfl rfl (same_n 402) (m_qBracket _ (v := v) hρ (hq.mx c8).1 (by rw [c8.2.2 _ rfl]; exact hb) (by omega) ho) ?_
        rintro v26 ρ26 σ26 ⟨rfl, e26, g26⟩
        obtain rfl := e26.symm
        obtain rfl := g26.symm
        refine Ev_const rfl ?_
        refine Ev_icmp_eq rfl (fun h31 => absurd ⟨hev.mp (Decidable.not_not.mp h13), Or.inr (Or.inl (e23.mp h31))⟩ hn) (fun h31 => ?_)
        refine Ev_aload rfl rfl rfl ?_
        refine Ev_callV rfl rfl rfl rfl rfl (same_n 402) (m_qBracket _ (v := v) hρ (hq.mx c8).1 (by rw [c8.2.2 _ rfl]; exact hb) (by omega) ho) ?_
        rintro v35 ρ35 σ35 ⟨rfl, e35, g35⟩
        obtain rfl := e35.symm
        obtain rfl := g35.symm
        refine Ev_const rfl ?_
        refine Ev_icmp_ne rfl (fun h40 => ?_) (fun h40 => absurd (fun z => hn ⟨hev.mp (Decidable.not_not.mp h13), Or.inr (Or.inr (e24.mp z))⟩) h40)
        exact fin σ8 s8 c8
end S88zk
