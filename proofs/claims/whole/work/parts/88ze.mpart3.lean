/-! A formula read by the reference: the turns of a part. -/
theorem qOp_app (e : Nat) (s : Rdg) (out w v : List Nat) (o : Nat) : (qOpY e (s, out, w ++ v, o)).1 = (qOpY e (s, out, w, o)).1 ∧ (isOk (qOpY e (s, out, w, o)).1 = true → qOpY e (s, out, w, o) = (s, out, e :: w, o + 1) ∧ isOk s = true) := by
  cases s with
  | inl e' => exact ⟨rfl, fun z => by cases z⟩
  | inr p =>
    by_cases h6 : o = 6
    · have e1 : qOpY e (.inr p, out, w ++ v, o) = (.inl (4, p.1), out, w ++ v, o) := if_pos h6
      have e2 : qOpY e (.inr p, out, w, o) = (.inl (4, p.1), out, w, o) := if_pos h6
      rw [e1, e2]
      exact ⟨rfl, fun z => by cases z⟩
    · have e1 : qOpY e (.inr p, out, w ++ v, o) = (.inr p, out, e :: (w ++ v), o + 1) := if_neg h6
      have e2 : qOpY e (.inr p, out, w, o) = (.inr p, out, e :: w, o + 1) := if_neg h6
      rw [e1, e2]
      exact ⟨rfl, fun _ => ⟨rfl, rfl⟩⟩
theorem okS_p {e : Nat} {w : List Nat} (he : e ∈ [34, 35, 36, 37, 38, 39, 1020, 1021, 1022, 1023, 1024]) (h : okS w) : okS (e :: w) := fun x hx => by
  rcases List.mem_cons.mp hx with z | z
  · rw [z]; exact he
  · exact h x z
section S88ze
variable {l : Launch} {X : Cx} {ρ : Rf} {U : Tx}
/-- what opens is put on the pile, and one sign or word is read behind it -/
theorem MYs.opn {σ' : St} {v : List Nat} {e : Nat} {s : Rdg} {out w : List Nat} {o : Nat} {f : Rdg → Rdg} (he : e ∈ [34, 35, 36, 37, 38, 39, 1020, 1021, 1022, 1023, 1024]) (ho : okS w) (hl : out.length + (w ++ v).length ≤ rpos s)
    (hb : σ'.1 326 104 = nI v.length) (H : MTt σ' U (f (qOpY e (s, out, w, o)).1)) (hq : isOk (qOpY e (s, out, w, o)).1 = true → MPq σ' out (e :: (w ++ v)) (o + 1)) (hf : ∀ p, isOk (f (.inr p)) = true → p.1 + 1 ≤ rpos (f (.inr p))) (hf2 : ∀ e', f (.inl e') = .inl e') (hcd : CdB σ') :
    MYs σ' U v (onY f (qOpY e (s, out, w, o))) := by
  refine ⟨H, hb, fun z => ?_, fun _ => hcd⟩
  have z2 : isOk (f (qOpY e (s, out, w, o)).1) = true := z
  clear z
  cases hs : (qOpY e (s, out, w, o)).1 with
  | inl e' => rw [hs, hf2] at z2; cases z2
  | inr p =>
    obtain ⟨q1, q2⟩ := (qOp_app e s out w v o).2 (by rw [hs]; rfl)
    have hq2 := hq (by rw [hs]; rfl)
    rw [hs] at z2
    rw [q1] at hs ⊢
    have hs2 : s = .inr p := hs
    rw [hs2] at hl ⊢
    refine ⟨hq2, okS_p he ho, ?_⟩
    show out.length + ((w ++ v).length + 1) ≤ rpos (f (.inr p))
    have := hf p z2
    have hl2 : out.length + (w ++ v).length ≤ p.1 := hl
    omega
/-- behind min, max -/
theorem m_stM (d : Nat) {σ : St} {v : List Nat} {p : Nat × Nat} {out w : List Nat} {o : Nat} (hρ : RF ρ) (hT : TxW U) (H : MTt σ U (.inr p)) (hb : σ.1 326 104 = nI v.length) (hq : MPq σ out (w ++ v) o) (ho : okS w) (hl : out.length + (w ++ v).length ≤ p.1) (b : Bool) (L2 L3 : Int32) (L5 : Value) {Q : Po}
    (hQ : ∀ σ' L5', MYs σ' U v (stM U (bif b then 1021 else 1022) (.inr p, out, w, o)).2 → MB σ σ' → Ev l X (d + 5) 273 2 [.ref 326, .int 1, .int L2, .int L3, .int (bI b), .int L5'] [] 402 402 402 ρ σ' Q) :
    Ev l X (d + 5) 273 101 [.ref 326, .int 1, .int L2, .int L3, .int (bI b), L5] [] 402 402 402 ρ σ Q := by
  have h16 := hT.1
  have hp : p.1 ≤ U.1 := H.le
  have hup := skp_up U p.1
  have hev := lkV_eq (mC_256 hT (s := .inr p)) (show 40 < 256 by decide)
  have hmA : ∀ q, isOk (mAs U 40 (.inr q)) = true → q.1 + 1 ≤ rpos (mAs U 40 (.inr q)) := by
    intro q z
    have := skp_up U q.1
    unfold mAs at z ⊢
    by_cases h : mC U (.inr q) = some 40
    · rw [if_pos h]; show q.1 + 1 ≤ skp U q.1 + 1; omega
    · rw [if_neg h] at z; cases z
  by_cases hc : mC U (.inr p) = some 40
  · have eM : (stM U (bif b then 1021 else 1022) (.inr p, out, w, o)).2 = onY (mAs U 40) (qOpY (bif b then 1021 else 1022) (skM U (.inr p), out, w, o)) := by
      unfold stM
      rw [if_pos hc]
    rw [eM] at hQ
    have hop : isOpn (bif b then 1021 else 1022) = true := by cases b <;> rfl
    have hmem : (bif b then 1021 else 1022) ∈ [34, 35, 36, 37, 38, 39, 1020, 1021, 1022, 1023, 1024] := by cases b <;> decide
    have fin : ∀ (σ2 : St) (n : Int32), MTt σ2 U (skM U (.inr p)) → MX σ σ2 → n = nI (ec (bif b then 1021 else 1022)) → Ev l X (d + 5) 273 139 [.ref 326, .int 1, .int L2, .int L3, .int (bI b), .int (nI (skp U p.1))] [.int n, .ref 326] 402 402 402 ρ σ2 Q := by
      intro σ2 n s2 c2 hn
      subst hn
      refine Ev_iload rfl rfl ?_
      refine Ev_callV rfl rfl rfl rfl rfl (same_n 402) (m_qOpens _ hρ s2 (fun _ => hq.mx c2) (by have := hl; omega) hop (fun q hq => by cases hq; rfl)) ?_
      rintro v141 ρ141 σ141 ⟨rfl, e141, s141, q141, a141, c141⟩
      obtain rfl := e141.symm
      rw [(qOp_app _ _ _ _ _ _).1] at s141 q141
      refine Ev_aload rfl rfl rfl ?_
      refine Ev_const rfl ?_
      refine Ev_callV rfl rfl rfl rfl rfl (same_n 402) (m_asksSign _ (c := 40) hρ hT (by decide) s141) ?_
      rintro v147 ρ147 σ147 ⟨rfl, e147, s147, c147⟩
      obtain rfl := e147.symm
      refine Ev_goto rfl ?_
      refine Ev_goto rfl ?_
      exact hQ σ147 _ (MYs.opn hmem ho (by show _ ≤ skp U p.1; omega) (by rw [c147.2.2 _ rfl, c141.2.2 _ rfl, c2.2.2 _ rfl]; exact hb) s147 (fun z => (q141 z).mx c147) hmA (fun _ => rfl) ((hq.1.cd (by omega)).of (by rw [c147.2.2 _ rfl, a141.2, c2.2.2 _ rfl]))) (c2.b.tr (c141.tr c147.b))
    refine Ev_aload rfl rfl rfl ?_
    refine Ev_callV rfl rfl rfl rfl rfl (same_n 402) (m_look _ hρ hT H) ?_
    rintro v102 ρ102 σ102 ⟨⟨x, rfl, hx⟩, e102, s102, c102⟩
    obtain rfl := e102.symm
    have hx := hx rfl
    subst hx
    refine Ev_const rfl ?_
    refine Ev_icmp_ne rfl (fun h107 => absurd (hev.mpr hc) h107) (fun h107 => ?_)
    refine Ev_aload rfl rfl rfl ?_
    refine Ev_getI rfl (by first | rfl | assumption) ?_
    refine Ev_norm s102.at0 ?_
    refine Ev_goto rfl ?_
    refine Ev_istore rfl ?_
    refine Ev_iload rfl rfl ?_
    refine Ev_const rfl ?_
    refine Ev_icmp_eq rfl (fun h123 => absurd h123 (nI_m1 (by have := s102.le; omega))) (fun h123 => ?_)
    refine Ev_aload rfl rfl rfl ?_
    refine Ev_iload rfl rfl ?_
    refine Ev_if_eq rfl (fun h129 => ?_) (fun h129 => ?_)
    · refine Ev_const rfl ?_
      exact fin σ102 _ s102 c102 (by cases b; rfl; exact absurd h129 (by decide))
    · refine Ev_const rfl ?_
      refine Ev_goto rfl ?_
      exact fin σ102 _ s102 c102 (by cases b; exact absurd rfl h129; rfl)
  · have eM : (stM U (bif b then 1021 else 1022) (.inr p, out, w, o)).2 = onY (mAs U 40) (skM U (.inr p), out, w, o) := by
      unfold stM
      rw [if_neg hc]
    rw [eM] at hQ
    refine Ev_aload rfl rfl rfl ?_
    refine Ev_callV rfl rfl rfl rfl rfl (same_n 402) (m_look _ hρ hT H) ?_
    rintro v102 ρ102 σ102 ⟨⟨x, rfl, hx⟩, e102, s102, c102⟩
    obtain rfl := e102.symm
    have hx := hx rfl
    subst hx
    refine Ev_const rfl ?_
    refine Ev_icmp_ne rfl (fun h107 => ?_) (fun h107 => absurd (fun z => hc (hev.mp z)) h107)
    refine Ev_const rfl ?_
    refine Ev_istore rfl ?_
    refine Ev_iload rfl rfl ?_
    refine Ev_const rfl ?_
    refine Ev_icmp_eq rfl (fun h123 => ?_) (fun h123 => absurd rfl h123)
    refine Ev_aload rfl rfl rfl ?_
    refine Ev_const rfl ?_
    refine Ev_callV rfl rfl rfl rfl rfl (same_n 402) (m_asksSign _ (c := 40) hρ hT (by decide) s102) ?_
    rintro v147 ρ147 σ147 ⟨rfl, e147, s147, c147⟩
    obtain rfl := e147.symm
    refine Ev_goto rfl ?_
    refine Ev_goto rfl ?_
    refine hQ σ147 _ ⟨s147, by rw [c147.2.2 _ rfl, c102.2.2 _ rfl]; exact hb, fun z => ⟨(hq.mx c102).mx c147, ho, ?_⟩, fun _ => (hq.1.cd (by omega)).of (by rw [c147.2.2 _ rfl, c102.2.2 _ rfl])⟩ (c102.b.tr c147.b)
    have := hmA (skp U p.1, tcN U p.1 p.2) z
    have this : skp U p.1 + 1 ≤ rpos (mAs U 40 (skM U (.inr p))) := this
    show _ ≤ rpos (mAs U 40 (skM U (.inr p)))
    show out.length + (w ++ v).length ≤ _
    omega
end S88ze
section S88ze2
variable {l : Launch} {X : Cx} {ρ : Rf} {U : Tx}
theorem m_partTurns (d : Nat) {v : List Nat} {k : Nat} {r : Ys} (hρ : RF ρ) (hT : TxW U) (hk : k < 5) (hv : okT v) : ∀ (f : Nat) (s : Rdg) (out w : List Nat) (o : Nat) (σ : St) (L2 L3 L4 L5 : Value), MYs σ U v (s, out, w, o) → Wds σ → σ.1 326 50 = nI k → runY U k f (0, (s, out, w, o)) = some r →
    Ev l X (d + 5) 273 2 [.ref 326, .int 1, L2, L3, L4, L5] [] 402 402 402 ρ σ (fun v' ρ' σ' => v' = none ∧ ρ' = ρ ∧ (∃ f' y', f' ≤ f ∧ runY U k f' (1, y') = some r ∧ MYs σ' U v y') ∧ MB σ σ') := by
  have h16 := hT.1
  intro f
  induction f with
  | zero => intro s out w o σ _ _ _ _ _ _ _ h; cases h
  | succ f ih =>
    intro s out w o σ L2 L3 L4 L5 HY hW hK hr
    obtain ⟨H, hb, hq⟩ := HY
    cases s with
    | inl e =>
      obtain ⟨z, hz, hz0⟩ := MTt.badE H
      refine Ev_iload rfl rfl ?_
      refine Ev_if_eq rfl (fun h3 => absurd h3 (show ¬ (1 : Int32) = 0 by decide)) (fun h3 => ?_)
      refine Ev_aload rfl rfl rfl ?_
      refine Ev_getI rfl (by first | rfl | assumption) ?_
      refine Ev_norm hz ?_
      refine Ev_if_ne rfl (fun h10 => ?_) (fun h10 => absurd hz0 h10)
      refine Ev_aload rfl rfl rfl ?_
      refine Ev_getI rfl (by first | rfl | assumption) ?_
      refine Ev_norm hz ?_
      refine Ev_if_eq rfl (fun h190 => absurd h190 hz0) (fun h190 => ?_)
      exact Ev_return rfl rfl rfl ⟨rfl, rfl, ⟨f + 1, _, Nat.le_refl _, runY_e hr rfl, H, hb, hq⟩, MF.rf _ _ _⟩
    | inr p =>
      have H : MTt σ U (.inr p) := H
      obtain ⟨hq, ho, hl⟩ := hq.1 rfl
      have hq : MPq σ out (w ++ v) o := hq
      have ho : okS w := ho
      have hl : out.length + (w ++ v).length ≤ p.1 := hl
      obtain ⟨g, hg, hr⟩ := runY_s hr rfl (by decide)
      obtain rfl : f = g := by omega
      have hr : runY U k f (stA U k (.inr p, out, w, o)) = some r := hr
      have hp : p.1 ≤ U.1 := H.le
      have hup := skp_up U p.1
      have hev := lkV_eq (mC_256 hT (s := .inr p)) (show 40 < 256 by decide)
      have sk := skM_i U (.inr p)
      have next : ∀ (y : Ys) (σ2 : St) (M2 M3 M4 M5 : Value), MYs σ2 U v y → MB σ σ2 → runY U k f (0, y) = some r → Ev l X (d + 5) 273 2 [.ref 326, .int 1, M2, M3, M4, M5] [] 402 402 402 ρ σ2 (fun v' ρ' σ' => v' = none ∧ ρ' = ρ ∧ (∃ f' y', f' ≤ f + 1 ∧ runY U k f' (1, y') = some r ∧ MYs σ' U v y') ∧ MB σ σ') :=
        fun y σ2 M2 M3 M4 M5 hy c2 hr2 => (ih y.1 y.2.1 y.2.2.1 y.2.2.2 σ2 M2 M3 M4 M5 hy (hW.b c2) (by rw [c2.2.2 _ rfl]; exact hK) hr2).mono (fun v' ρ' σ' h => ⟨h.1, h.2.1, by obtain ⟨f', y', q1, q2, q3⟩ := h.2.2.1; exact ⟨f', y', by omega, q2, q3⟩, c2.tr h.2.2.2⟩)
      have hnl : (w ++ v).length < 1700 := by omega
      by_cases hA : mC U (.inr p) = some 40
      · have eS : stA U k (.inr p, out, w, o) = (0, onY (adv 1 0) (qOpY 1020 (skM U (.inr p), out, w, o))) := if_pos hA
        rw [eS] at hr
        have hone : ∀ q, (qOpY 1020 (skM U (.inr p), out, w, o)).1 = .inr q → q.1 = skp U p.1 := fun q z => by
          have := ((qOp_app 1020 (skM U (.inr p)) out w v o).2 (by rw [z]; rfl)).1
          rw [this] at z
          have z : skM U (.inr p) = .inr q := z
          cases z; rfl
        refine Ev_iload rfl rfl ?_
        refine Ev_if_eq rfl (fun h3 => absurd h3 (show ¬ (1 : Int32) = 0 by decide)) (fun h3 => ?_)
        refine Ev_aload rfl rfl rfl ?_
        refine Ev_getI rfl (by first | rfl | assumption) ?_
        refine Ev_norm H.bad0 ?_
        refine Ev_if_ne rfl (fun h10 => absurd rfl h10) (fun h10 => ?_)
        refine Ev_aload rfl rfl rfl ?_
        refine Ev_callV rfl rfl rfl rfl rfl (same_n 402) (m_look _ hρ hT H) ?_
        rintro v14 ρ14 σ14 ⟨⟨x, rfl, hx⟩, e14, s14, c14⟩
        obtain rfl := e14.symm
        have hx := hx rfl
        subst hx
        refine Ev_istore rfl ?_
        refine Ev_aload rfl rfl rfl ?_
        refine Ev_const rfl ?_
        refine Ev_const rfl ?_
        refine Ev_callV rfl rfl rfl rfl rfl (same_n 402) (m_qWordOf _ (k := k) (lo := 9) (hi := 11) hρ hT (hW.mx c14) s14 (by rw [c14.2.2 _ rfl]; exact hK) hk (by decide) (by decide)) ?_
        rintro v23 ρ23 σ23 ⟨rfl, e23, s23, c23⟩
        obtain rfl := e23.symm
        rw [sk.1] at s23
        refine Ev_istore rfl ?_
        refine Ev_iload rfl rfl ?_
        refine Ev_const rfl ?_
        refine Ev_icmp_ne rfl (fun h30 => absurd (hev.mpr hA) h30) (fun h30 => ?_)
        refine Ev_aload rfl rfl rfl ?_
        refine Ev_const rfl ?_
        refine Ev_norm (rfl : _ = nI (ec 1020)) ?_
        refine Ev_aload rfl rfl rfl ?_
        refine Ev_getI rfl (by first | rfl | assumption) ?_
        refine Ev_norm s23.at0 ?_
        refine Ev_callV rfl rfl rfl rfl rfl (same_n 402) (m_qOpens _ (e := 1020) hρ s23 (fun _ => (hq.mx c14).mx c23) hnl rfl (fun q hq => by cases hq; rfl)) ?_
        rintro v40 ρ40 σ40 ⟨rfl, e40, s40, q40, a40, c40⟩
        obtain rfl := e40.symm
        rw [(qOp_app _ _ _ _ _ _).1] at s40 q40
        refine Ev_aload rfl rfl rfl ?_
        refine Ev_dup rfl (fun _ q => nomatch q) ?_
        refine Ev_getI rfl (by first | rfl | assumption) ?_
        refine Ev_norm (a40.1.trans s23.at0 : _ = nI (skp U p.1)) ?_
        refine Ev_const rfl ?_
        refine Ev_iadd rfl ?_
        refine Ev_norm (nI_1 (skp U p.1)) ?_
        refine Ev_putI rfl (by first | rfl | assumption) ⟨rfl, rfl⟩ rfl ?_
        refine Ev_goto rfl ?_
        refine Ev_goto rfl ?_
        refine next _ _ _ _ _ _ (MYs.opn (e := 1020) (s := skM U (.inr p)) (f := adv 1 0) (by decide) ho (by show _ ≤ skp U p.1; omega) ?_ (s40.onE hT (mC_at hA).1 hone) (fun z => (q40 z).mx (mx_put _ rfl)) (fun q _ => Nat.le_refl _) (fun _ => rfl) ((hq.1.cd (by omega)).of (by rw [sR_0, pk_un (by decide), a40.2, c23.2.2 _ rfl, c14.2.2 _ rfl]))) ((c14.b.tr c23.b).tr (c40.tr (mx_put (nI (skp U p.1 + 1)) rfl).b)) hr
        rw [sR_0, pk_un (by decide), c40.2.2 _ rfl, c23.2.2 _ rfl, c14.2.2 _ rfl]; exact hb
      · by_cases hB : mWd U (.inr p) = wMin
        · have eS : stA U k (.inr p, out, w, o) = stM U 1021 (adv 3 1 (skM U (.inr p)), out, w, o) := by unfold stA; rw [if_neg hA, if_pos hB]
          rw [eS] at hr
          have hle := wd_le hp hB
          have hle : skp U p.1 + 3 ≤ U.1 := hle
          refine Ev_iload rfl rfl ?_
          refine Ev_if_eq rfl (fun h3 => absurd h3 (show ¬ (1 : Int32) = 0 by decide)) (fun h3 => ?_)
          refine Ev_aload rfl rfl rfl ?_
          refine Ev_getI rfl (by first | rfl | assumption) ?_
          refine Ev_norm H.bad0 ?_
          refine Ev_if_ne rfl (fun h10 => absurd rfl h10) (fun h10 => ?_)
          refine Ev_aload rfl rfl rfl ?_
          refine Ev_callV rfl rfl rfl rfl rfl (same_n 402) (m_look _ hρ hT H) ?_
          rintro v14 ρ14 σ14 ⟨⟨x, rfl, hx⟩, e14, s14, c14⟩
          obtain rfl := e14.symm
          have hx := hx rfl
          subst hx
          refine Ev_istore rfl ?_
          refine Ev_aload rfl rfl rfl ?_
          refine Ev_const rfl ?_
          refine Ev_const rfl ?_
          refine Ev_callV rfl rfl rfl rfl rfl (same_n 402) (m_qWordOf _ (k := k) (lo := 9) (hi := 11) hρ hT (hW.mx c14) s14 (by rw [c14.2.2 _ rfl]; exact hK) hk (by decide) (by decide)) ?_
          rintro v23 ρ23 σ23 ⟨rfl, e23, s23, c23⟩
          obtain rfl := e23.symm
          rw [sk.1] at s23
          refine Ev_istore rfl ?_
          refine Ev_iload rfl rfl ?_
          refine Ev_const rfl ?_
          refine Ev_icmp_ne rfl (fun h30 => ?_) (fun h30 => absurd (fun z => hA (hev.mp z)) h30)
          refine Ev_aload rfl rfl rfl ?_
          refine Ev_aload rfl rfl rfl ?_
          refine Ev_getR rfl (by first | rfl | assumption) (hρ _ _ _ rfl) ?_
          refine Ev_callV rfl rfl rfl rfl rfl (same_n 402) (m_isHere _ hρ hT ((hW.mx c14).mx c23) (k := 385) (w := [109, 105, 110]) (by decide) s23) ?_
          rintro v61 ρ61 σ61 ⟨rfl, e61, s61, c61⟩
          refine Ev_norm (by rw [sk.2.2.1]; exact congrArg bI (decide_eq_true hB) : _ = bI true) ?_
          obtain rfl := e61.symm
          rw [sk.1] at s61
          refine Ev_if_ne rfl (fun h64 => ?_) (fun h64 => absurd (show ¬ bI true = 0 by decide) h64)
          refine Ev_aload rfl rfl rfl ?_
          refine Ev_aload rfl rfl rfl ?_
          refine Ev_getR rfl (by first | rfl | assumption) (hρ _ _ _ rfl) ?_
          refine Ev_callV rfl rfl rfl rfl rfl (same_n 402) (m_takes _ hρ hT (((hW.mx c14).mx c23).mx c61) (k := 385) (w := [109, 105, 110]) (by decide) s61) ?_
          rintro v83 ρ83 σ83 ⟨rfl, e83, s83, c83⟩
          refine Ev_norm (by rw [sk.2.2.1]; exact congrArg bI (decide_eq_true hB) : _ = bI true) ?_
          obtain rfl := e83.symm
          refine Ev_istore rfl ?_
          refine Ev_iload rfl rfl ?_
          refine Ev_if_ne rfl (fun h90 => ?_) (fun h90 => absurd (show ¬ bI true = 0 by decide) h90)
          have e3 : mTk U [109, 105, 110] (skM U (.inr p)) = .inr (skp U p.1 + 3, 1) := by
            unfold mTk
            rw [sk.2.2.1, if_pos (show mWd U (.inr p) = [109, 105, 110] from hB), sk.1]; rfl
          rw [e3] at s83
          have cc : MX σ σ83 := ((c14.tr c23).tr c61).tr c83
          exact m_stM d (b := true) hρ hT s83 (by rw [cc.2.2 _ rfl]; exact hb) (hq.mx cc) ho (by show _ ≤ skp U p.1 + 3; omega) _ _ _ (fun σ' L5' hy c => next _ σ' _ _ _ _ hy (cc.b.tr c) hr)
        · by_cases hC : mWd U (.inr p) = wMax
          · have eS : stA U k (.inr p, out, w, o) = stM U 1022 (adv 3 1 (skM U (.inr p)), out, w, o) := by unfold stA; rw [if_neg hA, if_neg hB, if_pos hC]
            rw [eS] at hr
            have hle := wd_le hp hC
            have hle : skp U p.1 + 3 ≤ U.1 := hle
            refine Ev_iload rfl rfl ?_
            refine Ev_if_eq rfl (fun h3 => absurd h3 (show ¬ (1 : Int32) = 0 by decide)) (fun h3 => ?_)
            refine Ev_aload rfl rfl rfl ?_
            refine Ev_getI rfl (by first | rfl | assumption) ?_
            refine Ev_norm H.bad0 ?_
            refine Ev_if_ne rfl (fun h10 => absurd rfl h10) (fun h10 => ?_)
            refine Ev_aload rfl rfl rfl ?_
            refine Ev_callV rfl rfl rfl rfl rfl (same_n 402) (m_look _ hρ hT H) ?_
            rintro v14 ρ14 σ14 ⟨⟨x, rfl, hx⟩, e14, s14, c14⟩
            obtain rfl := e14.symm
            have hx := hx rfl
            subst hx
            refine Ev_istore rfl ?_
            refine Ev_aload rfl rfl rfl ?_
            refine Ev_const rfl ?_
            refine Ev_const rfl ?_
            refine Ev_callV rfl rfl rfl rfl rfl (same_n 402) (m_qWordOf _ (k := k) (lo := 9) (hi := 11) hρ hT (hW.mx c14) s14 (by rw [c14.2.2 _ rfl]; exact hK) hk (by decide) (by decide)) ?_
            rintro v23 ρ23 σ23 ⟨rfl, e23, s23, c23⟩
            obtain rfl := e23.symm
            rw [sk.1] at s23
            refine Ev_istore rfl ?_
            refine Ev_iload rfl rfl ?_
            refine Ev_const rfl ?_
            refine Ev_icmp_ne rfl (fun h30 => ?_) (fun h30 => absurd (fun z => hA (hev.mp z)) h30)
            refine Ev_aload rfl rfl rfl ?_
            refine Ev_aload rfl rfl rfl ?_
            refine Ev_getR rfl (by first | rfl | assumption) (hρ _ _ _ rfl) ?_
            refine Ev_callV rfl rfl rfl rfl rfl (same_n 402) (m_isHere _ hρ hT ((hW.mx c14).mx c23) (k := 385) (w := [109, 105, 110]) (by decide) s23) ?_
            rintro v61 ρ61 σ61 ⟨rfl, e61, s61, c61⟩
            refine Ev_norm (by rw [sk.2.2.1]; exact congrArg bI (decide_eq_false hB) : _ = bI false) ?_
            obtain rfl := e61.symm
            rw [sk.1] at s61
            refine Ev_if_ne rfl (fun h64 => absurd rfl h64) (fun h64 => ?_)
            refine Ev_aload rfl rfl rfl ?_
            refine Ev_aload rfl rfl rfl ?_
            refine Ev_getR rfl (by first | rfl | assumption) (hρ _ _ _ rfl) ?_
            refine Ev_callV rfl rfl rfl rfl rfl (same_n 402) (m_isHere _ hρ hT (((hW.mx c14).mx c23).mx c61) (k := 386) (w := [109, 97, 120]) (by decide) s61) ?_
            rintro v72 ρ72 σ72 ⟨rfl, e72, s72, c72⟩
            refine Ev_norm (by rw [sk.2.2.1]; exact congrArg bI (decide_eq_true hC) : _ = bI true) ?_
            obtain rfl := e72.symm
            rw [sk.1] at s72
            refine Ev_if_eq rfl (fun h75 => absurd h75 (show ¬ bI true = 0 by decide)) (fun h75 => ?_)
            refine Ev_aload rfl rfl rfl ?_
            refine Ev_aload rfl rfl rfl ?_
            refine Ev_getR rfl (by first | rfl | assumption) (hρ _ _ _ rfl) ?_
            refine Ev_callV rfl rfl rfl rfl rfl (same_n 402) (m_takes _ hρ hT ((((hW.mx c14).mx c23).mx c61).mx c72) (k := 385) (w := [109, 105, 110]) (by decide) s72) ?_
            rintro v83 ρ83 σ83 ⟨rfl, e83, s83, c83⟩
            refine Ev_norm (by rw [sk.2.2.1]; exact congrArg bI (decide_eq_false hB) : _ = bI false) ?_
            obtain rfl := e83.symm
            refine Ev_istore rfl ?_
            refine Ev_iload rfl rfl ?_
            refine Ev_if_ne rfl (fun h90 => absurd rfl h90) (fun h90 => ?_)
            refine Ev_aload rfl rfl rfl ?_
            refine Ev_aload rfl rfl rfl ?_
            refine Ev_getR rfl (by first | rfl | assumption) (hρ _ _ _ rfl) ?_
            have e3 : mTk U [109, 105, 110] (skM U (.inr p)) = skM U (.inr p) := by
              unfold mTk
              rw [sk.2.2.1, if_neg (show ¬ mWd U (.inr p) = [109, 105, 110] from hB), sk.1]
            rw [e3] at s83
            refine Ev_callV rfl rfl rfl rfl rfl (same_n 402) (m_asks _ hρ hT (((((hW.mx c14).mx c23).mx c61).mx c72).mx c83) (k := 386) (w := [109, 97, 120]) (by decide) s83) ?_
            rintro v98 ρ98 σ98 ⟨rfl, e98, s98, c98⟩
            obtain rfl := e98.symm
            have e4 : mAk U [109, 97, 120] (skM U (.inr p)) = .inr (skp U p.1 + 3, 1) := mAk_sk hC (by decide)
            rw [e4] at s98
            have cc : MX σ σ98 := ((((c14.tr c23).tr c61).tr c72).tr c83).tr c98
            exact m_stM d (b := false) hρ hT s98 (by rw [cc.2.2 _ rfl]; exact hb) (hq.mx cc) ho (by show _ ≤ skp U p.1 + 3; omega) _ _ _ (fun σ' L5' hy c => next _ σ' _ _ _ _ hy (cc.b.tr c) hr)
          · have hwo := (wo_of hk (mWd U (.inr p))).1
            cases hD : ofR k (mWd U (.inr p)) with
            | some e =>
              rw [hD] at hwo
              have hwo : woO k 9 11 (mWd U (.inr p)) = some (e - 25) := hwo
              obtain ⟨he, hwe⟩ := ofR_lt hD
              have hmem : e ∈ [34, 35, 36, 37, 38, 39, 1020, 1021, 1022, 1023, 1024] := by rcases he with z | z <;> (subst z; decide)
              have hop : isOpn e = true := by rcases he with z | z <;> (subst z; rfl)
              have hne : wA (e - 25) ≠ [] := by rcases he with z | z <;> (subst z; decide)
              have hlen := wd_le hp hwe
              have eS : stA U k (.inr p, out, w, o) = (0, onY (adv (wA (e - 25)).length 1) (qOpY e (skM U (.inr p), out, w, o))) := by
                unfold stA; rw [if_neg hA, if_neg hB, if_neg hC, hD, ← hwe]
              rw [eS] at hr
              have hpos : 0 < (wA (e - 25)).length := by rcases he with z | z <;> (subst z; decide)
              have hak : mAk U (wA (e - 25)) (qOpY e (skM U (.inr p), out, w, o)).1 = adv (wA (e - 25)).length 1 (qOpY e (skM U (.inr p), out, w, o)).1 := by
                cases hz : (qOpY e (skM U (.inr p), out, w, o)).1 with
                | inl e' => unfold mAk; rw [if_neg (show ¬ mWd U (.inl e') = wA (e - 25) from fun z => hne z.symm)]; rfl
                | inr q =>
                  have := ((qOp_app e (skM U (.inr p)) out w v o).2 (by rw [hz]; rfl)).1
                  rw [this] at hz
                  have hz : skM U (.inr p) = .inr q := hz
                  rw [← hz]
                  exact mAk_sk hwe hne
              refine Ev_iload rfl rfl ?_
              refine Ev_if_eq rfl (fun h3 => absurd h3 (show ¬ (1 : Int32) = 0 by decide)) (fun h3 => ?_)
              refine Ev_aload rfl rfl rfl ?_
              refine Ev_getI rfl (by first | rfl | assumption) ?_
              refine Ev_norm H.bad0 ?_
              refine Ev_if_ne rfl (fun h10 => absurd rfl h10) (fun h10 => ?_)
              refine Ev_aload rfl rfl rfl ?_
              refine Ev_callV rfl rfl rfl rfl rfl (same_n 402) (m_look _ hρ hT H) ?_
              rintro v14 ρ14 σ14 ⟨⟨x, rfl, hx⟩, e14, s14, c14⟩
              obtain rfl := e14.symm
              have hx := hx rfl
              subst hx
              refine Ev_istore rfl ?_
              refine Ev_aload rfl rfl rfl ?_
              refine Ev_const rfl ?_
              refine Ev_const rfl ?_
              refine Ev_callV rfl rfl rfl rfl rfl (same_n 402) (m_qWordOf _ (k := k) (lo := 9) (hi := 11) hρ hT (hW.mx c14) s14 (by rw [c14.2.2 _ rfl]; exact hK) hk (by decide) (by decide)) ?_
              rintro v23 ρ23 σ23 ⟨rfl, e23, s23, c23⟩
              refine Ev_norm (by rw [sk.2.2.1, hwo]; rfl : _ = nI (e - 25)) ?_
              obtain rfl := e23.symm
              rw [sk.1] at s23
              refine Ev_istore rfl ?_
              refine Ev_iload rfl rfl ?_
              refine Ev_const rfl ?_
              refine Ev_icmp_ne rfl (fun h30 => ?_) (fun h30 => absurd (fun z => hA (hev.mp z)) h30)
              refine Ev_aload rfl rfl rfl ?_
              refine Ev_aload rfl rfl rfl ?_
              refine Ev_getR rfl (by first | rfl | assumption) (hρ _ _ _ rfl) ?_
              refine Ev_callV rfl rfl rfl rfl rfl (same_n 402) (m_isHere _ hρ hT ((hW.mx c14).mx c23) (k := 385) (w := [109, 105, 110]) (by decide) s23) ?_
              rintro v61 ρ61 σ61 ⟨rfl, e61, s61, c61⟩
              refine Ev_norm (by rw [sk.2.2.1]; exact congrArg bI (decide_eq_false hB) : _ = bI false) ?_
              obtain rfl := e61.symm
              rw [sk.1] at s61
              refine Ev_if_ne rfl (fun h64 => absurd rfl h64) (fun h64 => ?_)
              refine Ev_aload rfl rfl rfl ?_
              refine Ev_aload rfl rfl rfl ?_
              refine Ev_getR rfl (by first | rfl | assumption) (hρ _ _ _ rfl) ?_
              refine Ev_callV rfl rfl rfl rfl rfl (same_n 402) (m_isHere _ hρ hT (((hW.mx c14).mx c23).mx c61) (k := 386) (w := [109, 97, 120]) (by decide) s61) ?_
              rintro v72 ρ72 σ72 ⟨rfl, e72, s72, c72⟩
              refine Ev_norm (by rw [sk.2.2.1]; exact congrArg bI (decide_eq_false hC) : _ = bI false) ?_
              obtain rfl := e72.symm
              rw [sk.1] at s72
              refine Ev_if_eq rfl (fun h75 => ?_) (fun h75 => absurd rfl h75)
              refine Ev_iload rfl rfl ?_
              refine Ev_const rfl ?_
              refine Ev_icmp_eq rfl (fun h155 => absurd h155 (nI_m1 (by omega))) (fun h155 => ?_)
              refine Ev_aload rfl rfl rfl ?_
              refine Ev_const rfl ?_
              refine Ev_iload rfl rfl ?_
              refine Ev_iadd rfl ?_
              refine Ev_const rfl ?_
              refine Ev_isub rfl ?_
              refine Ev_norm (show _ = nI (ec e) by rcases he with z | z <;> (subst z; rfl)) ?_
              refine Ev_aload rfl rfl rfl ?_
              refine Ev_getI rfl (by first | rfl | assumption) ?_
              refine Ev_norm s72.at0 ?_
              refine Ev_callV rfl rfl rfl rfl rfl (same_n 402) (m_qOpens _ (e := e) hρ s72 (fun _ => (((hq.mx c14).mx c23).mx c61).mx c72) hnl hop (fun q hq => by cases hq; rfl)) ?_
              rintro v170 ρ170 σ170 ⟨rfl, e170, s170, q170, a170, c170⟩
              obtain rfl := e170.symm
              rw [(qOp_app _ _ _ _ _ _).1] at s170 q170
              refine Ev_aload rfl rfl rfl ?_
              refine Ev_iload rfl rfl ?_
              refine Ev_callV rfl rfl rfl rfl rfl (same_n 402) (m_qAsksWord _ (i := e - 25) hρ hT (((((hW.mx c14).mx c23).mx c61).mx c72).b c170) s170 (by omega)) ?_
              rintro v175 ρ175 σ175 ⟨rfl, e175, s175, c175⟩
              obtain rfl := e175.symm
              rw [hak] at s175
              refine Ev_goto rfl ?_
              refine Ev_goto rfl ?_
              refine next _ _ _ _ _ _ (MYs.opn (e := e) (s := skM U (.inr p)) (f := adv (wA (e - 25)).length 1) hmem ho (by show _ ≤ skp U p.1; omega) ?_ s175 (fun z => (q170 z).mx c175) (fun q _ => by show q.1 + 1 ≤ q.1 + (wA (e - 25)).length; omega) (fun _ => rfl) ((hq.1.cd (by omega)).of (by rw [c175.2.2 _ rfl, a170.2, c72.2.2 _ rfl, c61.2.2 _ rfl, c23.2.2 _ rfl, c14.2.2 _ rfl]))) ((MX.b (((c14.tr c23).tr c61).tr c72)).tr (c170.tr c175.b)) hr
              rw [c175.2.2 _ rfl, c170.2.2 _ rfl, c72.2.2 _ rfl, c61.2.2 _ rfl, c23.2.2 _ rfl, c14.2.2 _ rfl]; exact hb
            | none =>
              rw [hD] at hwo
              have hwo : woO k 9 11 (mWd U (.inr p)) = none := hwo
              have eS : stA U k (.inr p, out, w, o) = (1, match sgF k (mWd U (.inr p)) with
                  | some i => qeY (adv (mWd U (.inr p)).length 1 (skM U (.inr p))) (out ++ [i]) w o
                  | none => qeY (mNu U 9999 (.inr p)) (out ++ [256 * nval (mDg U (.inr p)) + 32]) w o) := by
                unfold stA; rw [if_neg hA, if_neg hB, if_neg hC, hD]
                cases sgF k (mWd U (.inr p)) <;> rfl
              rw [eS] at hr
              refine Ev_iload rfl rfl ?_
              refine Ev_if_eq rfl (fun h3 => absurd h3 (show ¬ (1 : Int32) = 0 by decide)) (fun h3 => ?_)
              refine Ev_aload rfl rfl rfl ?_
              refine Ev_getI rfl (by first | rfl | assumption) ?_
              refine Ev_norm H.bad0 ?_
              refine Ev_if_ne rfl (fun h10 => absurd rfl h10) (fun h10 => ?_)
              refine Ev_aload rfl rfl rfl ?_
              refine Ev_callV rfl rfl rfl rfl rfl (same_n 402) (m_look _ hρ hT H) ?_
              rintro v14 ρ14 σ14 ⟨⟨x, rfl, hx⟩, e14, s14, c14⟩
              obtain rfl := e14.symm
              have hx := hx rfl
              subst hx
              refine Ev_istore rfl ?_
              refine Ev_aload rfl rfl rfl ?_
              refine Ev_const rfl ?_
              refine Ev_const rfl ?_
              refine Ev_callV rfl rfl rfl rfl rfl (same_n 402) (m_qWordOf _ (k := k) (lo := 9) (hi := 11) hρ hT (hW.mx c14) s14 (by rw [c14.2.2 _ rfl]; exact hK) hk (by decide) (by decide)) ?_
              rintro v23 ρ23 σ23 ⟨rfl, e23, s23, c23⟩
              refine Ev_norm (by rw [sk.2.2.1, hwo]; rfl : _ = (-1 : Int32)) ?_
              obtain rfl := e23.symm
              rw [sk.1] at s23
              refine Ev_istore rfl ?_
              refine Ev_iload rfl rfl ?_
              refine Ev_const rfl ?_
              refine Ev_icmp_ne rfl (fun h30 => ?_) (fun h30 => absurd (fun z => hA (hev.mp z)) h30)
              refine Ev_aload rfl rfl rfl ?_
              refine Ev_aload rfl rfl rfl ?_
              refine Ev_getR rfl (by first | rfl | assumption) (hρ _ _ _ rfl) ?_
              refine Ev_callV rfl rfl rfl rfl rfl (same_n 402) (m_isHere _ hρ hT ((hW.mx c14).mx c23) (k := 385) (w := [109, 105, 110]) (by decide) s23) ?_
              rintro v61 ρ61 σ61 ⟨rfl, e61, s61, c61⟩
              refine Ev_norm (by rw [sk.2.2.1]; exact congrArg bI (decide_eq_false hB) : _ = bI false) ?_
              obtain rfl := e61.symm
              rw [sk.1] at s61
              refine Ev_if_ne rfl (fun h64 => absurd rfl h64) (fun h64 => ?_)
              refine Ev_aload rfl rfl rfl ?_
              refine Ev_aload rfl rfl rfl ?_
              refine Ev_getR rfl (by first | rfl | assumption) (hρ _ _ _ rfl) ?_
              refine Ev_callV rfl rfl rfl rfl rfl (same_n 402) (m_isHere _ hρ hT (((hW.mx c14).mx c23).mx c61) (k := 386) (w := [109, 97, 120]) (by decide) s61) ?_
              rintro v72 ρ72 σ72 ⟨rfl, e72, s72, c72⟩
              refine Ev_norm (by rw [sk.2.2.1]; exact congrArg bI (decide_eq_false hC) : _ = bI false) ?_
              obtain rfl := e72.symm
              rw [sk.1] at s72
              refine Ev_if_eq rfl (fun h75 => ?_) (fun h75 => absurd rfl h75)
              refine Ev_iload rfl rfl ?_
              refine Ev_const rfl ?_
              refine Ev_icmp_eq rfl (fun h155 => ?_) (fun h155 => absurd rfl h155)
              refine Ev_const rfl ?_
              refine Ev_istore rfl ?_
              refine Ev_goto rfl ?_
              refine Ev_iload rfl rfl ?_
              refine Ev_if_eq rfl (fun h3 => ?_) (fun h3 => absurd rfl h3)
              have cc : MX σ σ72 := ((c14.tr c23).tr c61).tr c72
              have nk := mNu_sk U 9999 (.inr p)
              refine (m_partEnd d (p := (skp U p.1, tcN U p.1 p.2)) (k := k) (out := out) (w := w) (o := o) hρ hT (hW.mx cc) hk (by rw [cc.2.2 _ rfl]; exact hK) hv s72 (by rw [cc.2.2 _ rfl]; exact hb) (hq.mx cc) ho (by show _ ≤ skp U p.1; omega) _ _ _ _ _ _ rfl).mono (fun v' ρ' σ' h => ⟨h.1, h.2.1, ⟨f, _, by omega, ?_, h.2.2.1⟩, cc.b.tr h.2.2.2⟩)
              show runY U k f (1, match sgF k (mWd U (skM U (.inr p))) with
                | some i => qeY (adv (mWd U (skM U (.inr p))).length 1 (skM U (skM U (.inr p)))) (out ++ [i]) w o
                | none => qeY (mNu U 9999 (skM U (.inr p))) (out ++ [256 * nval (mDg U (skM U (.inr p))) + 32]) w o) = some r
              rw [sk.2.2.1, sk.1, nk.1, nk.2]
              exact hr
theorem m_qPartTold (d : Nat) {v : List Nat} {k f : Nat} {y r : Ys} {σ : St} (hρ : RF ρ) (hT : TxW U) (hk : k < 5) (hv : okT v) (HY : MYs σ U v y) (hW : Wds σ) (hK : σ.1 326 50 = nI k) (hr : runY U k f (0, y) = some r) :
    T l X (d + 5) 273 [.ref 326] 402 402 ρ σ (fun v' ρ' σ' => v' = none ∧ ρ' = ρ ∧ (∃ f' y', f' ≤ f ∧ runY U k f' (1, y') = some r ∧ MYs σ' U v y') ∧ MB σ σ') := by
  refine T_of rfl ?_
  refine Ev_const rfl ?_
  refine Ev_istore rfl ?_
  exact m_partTurns d hρ hT hk hv f y.1 y.2.1 y.2.2.1 y.2.2.2 σ _ _ _ _ HY hW hK hr
end S88ze2
