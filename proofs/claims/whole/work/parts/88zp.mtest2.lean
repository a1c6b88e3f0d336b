/-! A formula read by the reference: squares, nots, a fact. -/
theorem PlW.rev {f : Nat → Int32} : ∀ {W : List Nat}, PlW f W → ∀ i, i < W.length → f i = nI (ec (W.reverse.getD i 0)) := by
  intro W
  induction W with
  | nil => intro _ i hi; exact absurd hi (Nat.not_lt_zero i)
  | cons e W ih =>
    intro h i hi
    rw [List.length_cons] at hi
    rw [List.reverse_cons, List.getD_eq_getElem?_getD]
    by_cases hq : i = W.length
    · subst hq
      rw [List.getElem?_append_right (by rw [List.length_reverse]; exact Nat.le_refl _), List.length_reverse, Nat.sub_self]
      exact h.1
    · rw [List.getElem?_append_left (by rw [List.length_reverse]; omega), ← List.getD_eq_getElem?_getD]
      exact ih h.2 i (by omega)
theorem mem_getD {W : List Nat} {e : Nat} (h : e ∈ W) : ∃ i, i < W.length ∧ W.getD i 0 = e := by
  obtain ⟨i, hi, he⟩ := List.getElem_of_mem h
  exact ⟨i, hi, by rw [List.getD_eq_getElem?_getD, List.getElem?_eq_getElem hi]; exact he⟩
theorem on_1 (e : Nat) (w : List Nat) (c : Nat) : decide ((e :: w) ≠ [] ∧ ec ((e :: w).headD 0) = c) = decide (ec e = c) :=
  decide_eq_decide.mpr ⟨fun z => z.2, fun z => ⟨List.cons_ne_nil _ _, z⟩⟩
theorem okT_lt {w : List Nat} (h : okT w) : ∀ e, e ∈ w → ec e < 100 := fun e he => (ec_T e (h e he)).1
theorem dnZ_l {s : Rdg} (h : isOk s = false) (out u : List Nat) (o : Nat) : dnZ s out u o = (s, out, u, o) := by
  cases u with
  | nil => rfl
  | cons e u =>
    show (if e = 33 ∧ isOk s = true then _ else _) = _
    rw [if_neg (fun z => by rw [h] at z; cases z.2)]
/-- a fact, ahead of the nots that wait for it -/
def fcZ (U : Tx) (k f : Nat) (s : Rdg) (out : List Nat) (o : Nat) : Option Xs :=
  if mWd U s = wAll then some (adv 3 1 (skM U s), out ++ [47])
  else (qsF U k f (skM U s) out o).bind (fun r => bif isOk r.1 then
      (match sgQ (mC U r.1) with
        | none => some (flA 1 0 (skM U r.1), r.2)
        | some t => (qsF U k f (adv 1 0 (skM U r.1)) r.2 o).bind (fun r2 => some (r2.1, r2.2 ++ [t])))
    else some r)
theorem stZ_fc {U : Tx} {k f : Nat} {s : Rdg} {out u : List Nat} {o : Nat} (h1 : mC U s ≠ some 91) (h2 : mWd U s ≠ wNot) : stZ U k f (s, out, u, o) = (fcZ U k f s out o).bind (fun r => some (1, dnZ r.1 r.2 u o)) := by
  unfold stZ fcZ
  show (if mC U s = some 91 then _ else if mWd U s = wNot then _ else if mWd U s = wAll then some (1, dnZ (adv 3 1 (skM U s)) (out ++ [47]) u o) else _) = _
  rw [if_neg h1, if_neg h2]
  by_cases h3 : mWd U s = wAll
  · rw [if_pos h3, if_pos h3]; rfl
  · rw [if_neg h3, if_neg h3]
    show (qsF U k f (skM U s) out o).bind _ = _
    cases hq : qsF U k f (skM U s) out o with
    | none => rfl
    | some r =>
      show (bif isOk r.1 then _ else some (1, (r.1, r.2, (u, o)))) = (bif isOk r.1 then _ else some r).bind _
      cases ho : isOk r.1 with
      | false => show _ = some (1, dnZ r.1 r.2 u o); rw [dnZ_l ho]; rfl
      | true =>
        show (match sgQ (mC U r.1) with | none => some (1, (flA 1 0 (skM U r.1), r.2, (u, o))) | some t => (qsF U k f (adv 1 0 (skM U r.1)) r.2 o).bind (fun r2 => some (1, dnZ r2.1 (r2.2 ++ [t]) u o))) = Option.bind (match sgQ (mC U r.1) with | none => some (flA 1 0 (skM U r.1), r.2) | some t => (qsF U k f (adv 1 0 (skM U r.1)) r.2 o).bind (fun r2 => some (r2.1, r2.2 ++ [t]))) _
        cases sgQ (mC U r.1) with
        | none => show _ = some (1, dnZ (flA 1 0 (skM U r.1)) r.2 u o); rw [dnZ_l (flA_no _ _ _)]
        | some t =>
          show (qsF U k f (adv 1 0 (skM U r.1)) r.2 o).bind _ = ((qsF U k f (adv 1 0 (skM U r.1)) r.2 o).bind _).bind _
          cases qsF U k f (adv 1 0 (skM U r.1)) r.2 o <;> rfl
theorem mz_cd {σ σ' : St} (h : σ'.1 326 100 = σ.1 326 100) (H : CdB σ) : CdB σ' := H.of h
section S88zp
variable {l : Launch} {X : Cx} {ρ : Rf} {U : Tx}
theorem m_qHasSquare (d : Nat) {σ : St} {out W : List Nat} (hρ : RF ρ) (H : MPc σ out W) (hn : W.length < 1700) (hw : okT W) :
    T l X d 277 [.ref 326] 402 402 ρ σ (Rs (.int (bI (decide (1025 ∈ W)))) ρ σ) := by
  have pl := PlW.rev H.2.2.2
  have loop : ∀ (m j : Nat), W.length - j = m → j ≤ W.length → (∀ i, i < j → W.reverse.getD i 0 ≠ 1025) → Ev l X d 277 2 [.ref 326, .int (nI j)] [] 402 402 402 ρ σ (Rs (.int (bI (decide (1025 ∈ W)))) ρ σ) := by
    intro m
    induction m with
    | zero =>
      intro j hm hj hno
      have hnm : ¬ 1025 ∈ W := fun z => by
        obtain ⟨i, hi, he⟩ := mem_getD (List.mem_reverse.mpr z)
        rw [List.length_reverse] at hi
        exact hno i (by omega) he
      refine Ev_iload rfl rfl ?_
      refine Ev_aload rfl rfl rfl ?_
      refine Ev_getI rfl (by first | rfl | assumption) ?_
      refine Ev_norm H.2.2.1 ?_
      refine Ev_icmp_ge rfl (fun h7 => ?_) (fun h7 => absurd (nI_le (by omega) (by omega)) h7)
      refine Ev_const rfl ?_
      exact Ev_ireturn rfl rfl (narZ false) rfl ⟨by rw [decide_eq_false hnm]; rfl, rfl, rfl⟩
    | succ m ih =>
      intro j hm hj hno
      have hm2 : W.reverse.getD j 0 ∈ W := List.mem_reverse.mp (getD_mem (by rw [List.length_reverse]; omega))
      have hlt := (ec_T _ (hw _ hm2)).1
      have h25 := (ec_T _ (hw _ hm2)).2.2.2.2.1
      refine Ev_iload rfl rfl ?_
      refine Ev_aload rfl rfl rfl ?_
      refine Ev_getI rfl (by first | rfl | assumption) ?_
      refine Ev_norm H.2.2.1 ?_
      refine Ev_icmp_ge rfl (fun h7 => absurd h7 (nI_ge (by omega) (by omega))) (fun h7 => ?_)
      refine Ev_aload rfl rfl rfl ?_
      refine Ev_getR rfl (by first | rfl | assumption) (hρ _ _ _ rfl) ?_
      refine Ev_iload rfl rfl ?_
      refine Ev_iald rfl (by first | rfl | assumption) (vp_in_nI (n := j) (show j < 1700 by omega) (by decide)) ?_
      refine Ev_norm (by rw [nI_clamp (by omega)]; exact pl j (by omega) : _ = nI (ec (W.reverse.getD j 0))) ?_
      refine Ev_const rfl ?_
      refine Ev_icmp_ne rfl (fun h18 => ?_) (fun h18 => ?_)
      · refine Ev_iincE rfl rfl (nI_1 j) ?_
        refine Ev_goto rfl ?_
        refine ih (j + 1) (by omega) (by omega) (fun i hi => ?_)
        by_cases hq : i = j
        · rw [hq]; exact fun z => h18 (by rw [h25.mpr z]; rfl)
        · exact hno i (by omega)
      · refine Ev_const rfl ?_
        exact Ev_ireturn rfl rfl (narZ true) rfl ⟨by rw [decide_eq_true (show 1025 ∈ W by rw [← h25.mp ((nI_eq (b := 25) (by omega) (by decide)).mp (Decidable.not_not.mp h18))]; exact hm2)]; rfl, rfl, rfl⟩
  refine T_of rfl ?_
  refine Ev_const rfl ?_
  refine Ev_istore rfl ?_
  exact loop _ 0 rfl (Nat.zero_le _) (fun i hi => absurd hi (Nat.not_lt_zero i))
theorem m_qDropsNots (d : Nat) (hρ : RF ρ) : ∀ (w out : List Nat) (o : Nat) (s : Rdg) (σ : St), MTt σ U s → (isOk s = true → MPq σ out w o ∧ okT w ∧ out.length + w.length < 1700) →
    Ev l X (d + 2) 278 0 [.ref 326] [] 402 402 402 ρ σ (fun v' ρ' σ' => v' = none ∧ ρ' = ρ ∧ MTt σ' U s ∧ (isOk s = true → MPq σ' (dnZ s out w o).2.1 (dnZ s out w o).2.2.1 (dnZ s out w o).2.2.2 ∧ okT (dnZ s out w o).2.2.1 ∧ (dnZ s out w o).2.1.length + (dnZ s out w o).2.2.1.length = out.length + w.length) ∧ MB σ σ') := by
  have bad : ∀ (w out : List Nat) (o : Nat) (e : Nat × Nat) (σ : St), MTt σ U (.inl e) → Ev l X (d + 2) 278 0 [.ref 326] [] 402 402 402 ρ σ (fun v' ρ' σ' => v' = none ∧ ρ' = ρ ∧ MTt σ' U (.inl e) ∧ (isOk (.inl e) = true → MPq σ' (dnZ (.inl e) out w o).2.1 (dnZ (.inl e) out w o).2.2.1 (dnZ (.inl e) out w o).2.2.2 ∧ okT (dnZ (.inl e) out w o).2.2.1 ∧ (dnZ (.inl e) out w o).2.1.length + (dnZ (.inl e) out w o).2.2.1.length = out.length + w.length) ∧ MB σ σ') := by
    intro w out o e σ H
    obtain ⟨z, hz, hz0⟩ := H.badE
    refine Ev_aload rfl rfl rfl ?_
    refine Ev_getI rfl (by first | rfl | assumption) ?_
    refine Ev_norm hz ?_
    refine Ev_if_ne rfl (fun h4 => ?_) (fun h4 => absurd hz0 h4)
    exact Ev_return rfl rfl rfl ⟨rfl, rfl, H, (fun z => by cases z), MF.rf _ _ _⟩
  intro w
  induction w with
  | nil =>
    intro out o s σ H hp
    cases s with
    | inl e => exact bad [] out o e σ H
    | inr p =>
      obtain ⟨hq, ho, hl⟩ := hp rfl
      refine Ev_aload rfl rfl rfl ?_
      refine Ev_getI rfl (by first | rfl | assumption) ?_
      refine Ev_norm H.bad0 ?_
      refine Ev_if_ne rfl (fun h4 => absurd rfl h4) (fun h4 => ?_)
      refine Ev_aload rfl rfl rfl ?_
      refine Ev_const rfl ?_
      refine Ev_callV rfl rfl rfl rfl rfl (same_n 402) (m_qIsOn _ (W := []) (c := 12) hρ hq.1 (by decide) (by decide) (fun e he => by cases he)) ?_
      rintro v10 ρ10 σ10 ⟨rfl, e10, g10⟩
      obtain rfl := e10.symm
      obtain rfl := g10.symm
      refine Ev_norm (rfl : _ = bI false) ?_
      refine Ev_if_eq rfl (fun h13 => ?_) (fun h13 => absurd rfl h13)
      exact Ev_return rfl rfl rfl ⟨rfl, rfl, H, fun _ => ⟨hq, ho, rfl⟩, MF.rf _ _ _⟩
  | cons e w ih =>
    intro out o s σ H hp
    cases s with
    | inl e' => exact bad (e :: w) out o e' σ H
    | inr p =>
      obtain ⟨hq, ho, hl⟩ := hp rfl
      obtain ⟨he, how⟩ := okT_c ho
      obtain ⟨g1, g2, g3, g4, g5, g6, _⟩ := ec_T e he
      rw [List.length_cons] at hl
      by_cases hz : e = 33
      · subst hz
        have eZ : dnZ (.inr p) out (33 :: w) o = dnZ (.inr p) (out ++ [33]) w (o - 1) := by
          show (if (33 : Nat) = 33 ∧ isOk (.inr p) = true then dnZ (.inr p) (out ++ [33]) w (o - 1) else _) = _
          rw [if_pos ⟨rfl, rfl⟩]
        obtain ⟨q1, q2, q3, q4⟩ := hq
        rw [cnt_p rfl] at q3
        have eo : o = o - 1 + 1 := by omega
        rw [eZ]
        refine Ev_aload rfl rfl rfl ?_
        refine Ev_getI rfl (by first | rfl | assumption) ?_
        refine Ev_norm H.bad0 ?_
        refine Ev_if_ne rfl (fun h4 => absurd rfl h4) (fun h4 => ?_)
        refine Ev_aload rfl rfl rfl ?_
        refine Ev_const rfl ?_
        refine Ev_callV rfl rfl rfl rfl rfl (same_n 402) (m_qIsOn _ (W := 33 :: w) (c := 12) hρ q1 (by rw [List.length_cons]; omega) (by decide) (okT_lt ho)) ?_
        rintro v10 ρ10 σ10 ⟨rfl, e10, g10⟩
        obtain rfl := e10.symm
        obtain rfl := g10.symm
        refine Ev_norm (rfl : _ = bI true) ?_
        refine Ev_if_eq rfl (fun h13 => absurd h13 (show ¬ bI true = 0 by decide)) (fun h13 => ?_)
        refine Ev_aload rfl rfl rfl ?_
        refine Ev_dup rfl (fun _ q => nomatch q) ?_
        refine Ev_getI rfl (by first | rfl | assumption) ?_
        refine Ev_norm (by rw [q2, ← eo] : _ = nI (o - 1 + 1)) ?_
        refine Ev_const rfl ?_
        refine Ev_isub rfl ?_
        refine Ev_norm (pk_s1 (o - 1)) ?_
        refine Ev_putI rfl (by first | rfl | assumption) ⟨rfl, rfl⟩ rfl ?_
        refine Ev_aload rfl rfl rfl ?_
        refine Ev_callV rfl rfl rfl rfl rfl (same_n 402) (m_qDrops _ (W := w) (e := 33) hρ (q1.mz0 (op_put _)) (by omega) (by omega) rfl) ?_
        rintro v27 ρ27 σ27 ⟨rfl, e27, s27, c27⟩
        obtain rfl := e27.symm
        refine Ev_goto rfl ?_
        have hmb : MB σ σ27 := (op_b (op_put (σ := σ) (nI (o - 1)))).tr c27.b
        have hmz : MZ σ σ27 := (op_z (op_put (σ := σ) (nI (o - 1)))).tr c27.z
        have := ih (out ++ [33]) (o - 1) (.inr p) σ27 (H.mz hmz) (fun _ => ⟨⟨s27, by rw [c27.2.2 _ rfl, sR_0, pk_us], by omega, by omega⟩, how, by rw [List.length_append]; show out.length + 1 + _ < _; omega⟩)
        exact this.mono (fun v' ρ' σ' h => ⟨h.1, h.2.1, h.2.2.1, fun z => ⟨(h.2.2.2.1 z).1, (h.2.2.2.1 z).2.1, by rw [(h.2.2.2.1 z).2.2, List.length_append]; show out.length + 1 + w.length = out.length + (w.length + 1); omega⟩, hmb.tr h.2.2.2.2⟩)
      · have eZ : dnZ (.inr p) out (e :: w) o = (.inr p, out, e :: w, o) := dnZ_n (fun e' r q => by cases q; exact hz)
        rw [eZ]
        refine Ev_aload rfl rfl rfl ?_
        refine Ev_getI rfl (by first | rfl | assumption) ?_
        refine Ev_norm H.bad0 ?_
        refine Ev_if_ne rfl (fun h4 => absurd rfl h4) (fun h4 => ?_)
        refine Ev_aload rfl rfl rfl ?_
        refine Ev_const rfl ?_
        refine Ev_callV rfl rfl rfl rfl rfl (same_n 402) (m_qIsOn _ (W := e :: w) (c := 12) hρ hq.1 (by rw [List.length_cons]; omega) (by decide) (okT_lt ho)) ?_
        rintro v10 ρ10 σ10 ⟨rfl, e10, g10⟩
        obtain rfl := e10.symm
        obtain rfl := g10.symm
        refine Ev_norm (by rw [on_1, decide_eq_false (fun z => hz (g6.mp z))] : _ = bI false) ?_
        refine Ev_if_eq rfl (fun h13 => ?_) (fun h13 => absurd rfl h13)
        exact Ev_return rfl rfl rfl ⟨rfl, rfl, H, fun _ => ⟨hq, ho, rfl⟩, MF.rf _ _ _⟩
theorem sgQ_c {c : Option Nat} {t : Nat} (h : sgQ c = some t) : (c = some 60 ∧ t = 40) ∨ (c = some 62 ∧ t = 41) ∨ (c = some 61 ∧ t = 42) := by
  unfold sgQ at h
  split at h
  · rename_i q; cases h; exact Or.inl ⟨q, rfl⟩
  · split at h
    · rename_i q; cases h; exact Or.inr (Or.inl ⟨q, rfl⟩)
    · split at h
      · rename_i q; cases h; exact Or.inr (Or.inr ⟨q, rfl⟩)
      · cases h
theorem sgQ_n {c : Option Nat} (h : sgQ c = none) : c ≠ some 60 ∧ c ≠ some 62 ∧ c ≠ some 61 := by
  unfold sgQ at h
  split at h
  · cases h
  · split at h
    · cases h
    · split at h
      · cases h
      · exact ⟨by assumption, by assumption, by assumption⟩
theorem MPq.len2 {σ : St} {out W : List Nat} {o : Nat} (H : MPq σ out W o) : σ.1 326 100 = nI out.length := H.1.1
theorem MTt.rle {σ : St} {s : Rdg} (H : MTt σ U s) (h : isOk s = true) : rpos s ≤ U.1 := by
  cases s with
  | inl e => cases h
  | inr p => exact H.2.2.1
/-- the second sum of a comparison, and its order -/
theorem m_factEnd (d : Nat) {σ : St} {out u : List Nat} {o k f P : Nat} {p : Nat × Nat} {r : Xs} {t c : Nat} (hρ : RF ρ) (hT : TxW U) (hk : k < 5) (hv : okT u) (H : MTt σ U (.inr p)) (hW : Wds σ) (hK : σ.1 326 50 = nI k) (hq : MPq σ out u o) (hl : out.length + 1 + u.length + P ≤ p.1) (hc : (c = 60 ∧ t = 40) ∨ (c = 62 ∧ t = 41) ∨ (c = 61 ∧ t = 42)) (hr : (qsF U k f (.inr p) out o).bind (fun r2 => some (r2.1, r2.2 ++ [t])) = some r) :
    Ev l X (d + 7) 276 73 [.ref 326, .int (nI c)] [] 402 402 402 ρ σ (fun v' ρ' σ' => v' = none ∧ ρ' = ρ ∧ MTt σ' U r.1 ∧ (isOk r.1 = true → MPq σ' r.2 u o ∧ r.2.length + u.length + P ≤ rpos r.1) ∧ MB σ σ') := by
  have h16 := hT.1
  have hle : p.1 ≤ U.1 := H.le
  cases hs : qsF U k f (.inr p) out o with
  | none => rw [hs] at hr; cases hr
  | some r2 =>
    rw [hs] at hr
    have hr : (r2.1, r2.2 ++ [t]) = r := Option.some.inj hr
    subst hr
    have fin : ∀ (σ2 : St) (x : Int32), MTt σ2 U r2.1 → (isOk r2.1 = true → MPq σ2 r2.2 u o ∧ r2.2.length + u.length + (P + 1) ≤ rpos r2.1) → (isOk r2.1 = false → CdB σ2) → MB σ σ2 → x = nI (mc t) → Ev l X (d + 7) 276 102 [.ref 326, .int (nI c)] [.int x, .ref 326] 402 402 402 ρ σ2 (fun v' ρ' σ' => v' = none ∧ ρ' = ρ ∧ MTt σ' U r2.1 ∧ (isOk r2.1 = true → MPq σ' (r2.2 ++ [t]) u o ∧ (r2.2 ++ [t]).length + u.length + P ≤ rpos r2.1) ∧ MB σ σ') := by
      intro σ2 x s2 q2 d2 c2 hx
      subst hx
      cases ho : isOk r2.1 with
      | true =>
        obtain ⟨z1, z2⟩ := q2 ho
        have hle2 := s2.rle ho
        refine Ev_callV rfl rfl rfl rfl rfl (same_n 402) (m_qCode _ (t := t) hρ z1.1 (by omega)) ?_
        rintro v102 ρ102 σ102 ⟨rfl, e102, s102, c102⟩
        obtain rfl := e102.symm
        exact Ev_return rfl rfl rfl ⟨rfl, rfl, s2.mz c102.z, fun _ => ⟨z1.mk s102 (c102.2.2 _ rfl) (Nat.le_refl _), by rw [List.length_append]; show r2.2.length + 1 + _ + _ ≤ _; omega⟩, c2.tr c102.b⟩
      | false =>
        obtain ⟨n, hn, hcd⟩ := d2 ho
        refine Ev_callV rfl rfl rfl rfl rfl (same_n 402) (m_qCodeX _ hρ hcd (by omega)) ?_
        rintro v102 ρ102 σ102 ⟨rfl, e102, c102, _⟩
        obtain rfl := e102.symm
        exact Ev_return rfl rfl rfl ⟨rfl, rfl, s2.mz c102.z, (fun z => by cases z), c2.tr c102.b⟩
    refine Ev_aload rfl rfl rfl ?_
    refine Ev_callV rfl rfl rfl rfl rfl (same_n 402) (m_qSumsX _ (P := P + 1) hρ hT hk hv H hW hK hq (by omega) hs) ?_
    rintro v74 ρ74 σ74 ⟨rfl, e74, s74, q74, d74, c74⟩
    obtain rfl := e74.symm
    refine Ev_aload rfl rfl rfl ?_
    refine Ev_iload rfl rfl ?_
    refine Ev_const rfl ?_
    refine Ev_icmp_ne rfl (fun h81 => ?_) (fun h81 => ?_)
    · refine Ev_iload rfl rfl ?_
      refine Ev_const rfl ?_
      refine Ev_icmp_ne rfl (fun h92 => ?_) (fun h92 => ?_)
      · refine Ev_const rfl ?_
        exact fin σ74 _ s74 q74 d74 c74 (by
        rcases hc with ⟨rfl, rfl⟩ | ⟨rfl, rfl⟩ | ⟨rfl, rfl⟩
        · exact absurd rfl h81
        · exact absurd rfl h92
        · rfl)
      · refine Ev_const rfl ?_
        refine Ev_goto rfl ?_
        exact fin σ74 _ s74 q74 d74 c74 (by
        rcases hc with ⟨rfl, rfl⟩ | ⟨rfl, rfl⟩ | ⟨rfl, rfl⟩
        · exact absurd rfl h81
        · rfl
        · exact absurd (Decidable.not_not.mp h92) (by decide))
    · refine Ev_const rfl ?_
      refine Ev_goto rfl ?_
      exact fin σ74 _ s74 q74 d74 c74 (by
      rcases hc with ⟨rfl, rfl⟩ | ⟨rfl, rfl⟩ | ⟨rfl, rfl⟩
      · rfl
      · exact absurd (Decidable.not_not.mp h81) (by decide)
      · exact absurd (Decidable.not_not.mp h81) (by decide))
theorem m_qFact (d : Nat) {σ : St} {out u : List Nat} {o k f P : Nat} {p : Nat × Nat} {r : Xs} (hρ : RF ρ) (hT : TxW U) (hk : k < 5) (hv : okT u) (H : MTt σ U (.inr p)) (hW : Wds σ) (hK : σ.1 326 50 = nI k) (hq : MPq σ out u o) (hl : out.length + u.length + P ≤ p.1) (hr : fcZ U k f (.inr p) out o = some r) :
    T l X (d + 7) 276 [.ref 326] 402 402 ρ σ (fun v' ρ' σ' => v' = none ∧ ρ' = ρ ∧ MTt σ' U r.1 ∧ (isOk r.1 = true → MPq σ' r.2 u o ∧ r.2.length + u.length + P ≤ rpos r.1) ∧ MB σ σ') := by
  have h16 := hT.1
  have hp : p.1 ≤ U.1 := H.le
  have hup := skp_up U p.1
  unfold fcZ at hr
  by_cases hA : mWd U (.inr p) = wAll
  · rw [if_pos hA] at hr
    have hr : (adv 3 1 (skM U (.inr p)), out ++ [47]) = r := Option.some.inj hr
    subst hr
    have hle : skp U p.1 + 3 ≤ U.1 := wd_le hp hA
    refine T_of rfl ?_
    refine Ev_aload rfl rfl rfl ?_
    refine Ev_aload rfl rfl rfl ?_
    refine Ev_getR rfl (by first | rfl | assumption) (hρ _ _ _ rfl) ?_
    refine Ev_callV rfl rfl rfl rfl rfl (same_n 402) (m_takes _ hρ hT hW (k := 384) (w := [97, 108, 108]) (by decide) H) ?_
    rintro v5 ρ5 σ5 ⟨rfl, e5, s5, c5⟩
    refine Ev_norm (congrArg bI (decide_eq_true hA) : _ = bI true) ?_
    obtain rfl := e5.symm
    refine Ev_if_eq rfl (fun h8 => absurd h8 (show ¬ bI true = 0 by decide)) (fun h8 => ?_)
    refine Ev_aload rfl rfl rfl ?_
    refine Ev_const rfl ?_
    refine Ev_norm (rfl : _ = nI (mc 47)) ?_
    refine Ev_callV rfl rfl rfl rfl rfl (same_n 402) (m_qCode _ (t := 47) hρ (hq.mx c5).1 (by omega)) ?_
    rintro v14 ρ14 σ14 ⟨rfl, e14, s14, c14⟩
    obtain rfl := e14.symm
    exact Ev_return rfl rfl rfl (by
    have e3 : mTk U [97, 108, 108] (.inr p) = adv 3 1 (skM U (.inr p)) := by
      unfold mTk
      rw [if_pos (show mWd U (.inr p) = [97, 108, 108] from hA)]; rfl
    rw [e3] at s5
    refine ⟨rfl, rfl, s5.mz c14.z, fun _ => ⟨(hq.mx c5).mk s14 (c14.2.2 _ rfl) (Nat.le_refl _), ?_⟩, c5.b.tr c14.b⟩
    rw [List.length_append]
    show out.length + 1 + _ + _ ≤ skp U p.1 + 3
    omega)
  · rw [if_neg hA] at hr
    cases hs1 : qsF U k f (skM U (.inr p)) out o with
    | none => rw [hs1] at hr; cases hr
    | some r1 =>
      rw [hs1] at hr
      have hr : (bif isOk r1.1 then (match sgQ (mC U r1.1) with | none => some (flA 1 0 (skM U r1.1), r1.2) | some t => (qsF U k f (adv 1 0 (skM U r1.1)) r1.2 o).bind (fun r2 => some (r2.1, r2.2 ++ [t]))) else some r1) = some r := hr
      obtain ⟨s1, out1⟩ := r1
      have e3 : mTk U [97, 108, 108] (.inr p) = skM U (.inr p) := by
        unfold mTk
        rw [if_neg (show ¬ mWd U (.inr p) = [97, 108, 108] from hA)]
      cases s1 with
      | inl e =>
        have hr : ((.inl e : Rdg), out1) = r := Option.some.inj hr
        subst hr
        refine T_of rfl ?_
        refine Ev_aload rfl rfl rfl ?_
        refine Ev_aload rfl rfl rfl ?_
        refine Ev_getR rfl (by first | rfl | assumption) (hρ _ _ _ rfl) ?_
        refine Ev_callV rfl rfl rfl rfl rfl (same_n 402) (m_takes _ hρ hT hW (k := 384) (w := [97, 108, 108]) (by decide) H) ?_
        rintro v5 ρ5 σ5 ⟨rfl, e5, s5, c5⟩
        refine Ev_norm (congrArg bI (decide_eq_false hA) : _ = bI false) ?_
        obtain rfl := e5.symm
        rw [e3] at s5
        refine Ev_if_eq rfl (fun h8 => ?_) (fun h8 => absurd rfl h8)
        refine Ev_aload rfl rfl rfl ?_
        refine Ev_callV rfl rfl rfl rfl rfl (same_n 402) (m_qSumsX _ (P := P) (p := (skp U p.1, tcN U p.1 p.2)) hρ hT hk hv s5 (hW.mx c5) (by rw [c5.2.2 _ rfl]; exact hK) (hq.mx c5) (by show _ ≤ skp U p.1; omega) hs1) ?_
        rintro v19 ρ19 σ19 ⟨rfl, e19, s19, q19, d19, c19⟩
        obtain rfl := e19.symm
        obtain ⟨z, hz, hz0⟩ := MTt.badE (e := e) s19
        refine Ev_aload rfl rfl rfl ?_
        refine Ev_getI rfl (by first | rfl | assumption) ?_
        refine Ev_norm hz ?_
        refine Ev_if_eq rfl (fun h26 => absurd h26 hz0) (fun h26 => ?_)
        exact Ev_return rfl rfl rfl ⟨rfl, rfl, s19, (fun z => by cases z), c5.b.tr c19⟩
      | inr q =>
        have hr : (match sgQ (mC U (.inr q)) with | none => some (flA 1 0 (skM U (.inr q)), out1) | some t => (qsF U k f (adv 1 0 (skM U (.inr q))) out1 o).bind (fun r2 => some (r2.1, r2.2 ++ [t]))) = some r := hr
        have hupq := skp_up U q.1
        cases hs : sgQ (mC U (.inr q)) with
        | none =>
          obtain ⟨n1, n2, n3⟩ := sgQ_n hs
          rw [hs] at hr
          have hr : (flA 1 0 (skM U (.inr q)), out1) = r := Option.some.inj hr
          subst hr
          have ev60 := lkV_eq (mC_256 hT (s := .inr q)) (show 60 < 256 by decide)
          have ev62 := lkV_eq (mC_256 hT (s := .inr q)) (show 62 < 256 by decide)
          have ev61 := lkV_eq (mC_256 hT (s := .inr q)) (show 61 < 256 by decide)
          refine T_of rfl ?_
          refine Ev_aload rfl rfl rfl ?_
          refine Ev_aload rfl rfl rfl ?_
          refine Ev_getR rfl (by first | rfl | assumption) (hρ _ _ _ rfl) ?_
          refine Ev_callV rfl rfl rfl rfl rfl (same_n 402) (m_takes _ hρ hT hW (k := 384) (w := [97, 108, 108]) (by decide) H) ?_
          rintro v5 ρ5 σ5 ⟨rfl, e5, s5, c5⟩
          refine Ev_norm (congrArg bI (decide_eq_false hA) : _ = bI false) ?_
          obtain rfl := e5.symm
          rw [e3] at s5
          refine Ev_if_eq rfl (fun h8 => ?_) (fun h8 => absurd rfl h8)
          refine Ev_aload rfl rfl rfl ?_
          refine Ev_callV rfl rfl rfl rfl rfl (same_n 402) (m_qSumsX _ (P := P) (p := (skp U p.1, tcN U p.1 p.2)) hρ hT hk hv s5 (hW.mx c5) (by rw [c5.2.2 _ rfl]; exact hK) (hq.mx c5) (by show _ ≤ skp U p.1; omega) hs1) ?_
          rintro v19 ρ19 σ19 ⟨rfl, e19, s19, q19, d19, c19⟩
          obtain rfl := e19.symm
          refine Ev_aload rfl rfl rfl ?_
          refine Ev_getI rfl (by first | rfl | assumption) ?_
          refine Ev_norm (MTt.bad0 (p := q) s19) ?_
          refine Ev_if_eq rfl (fun h26 => ?_) (fun h26 => absurd rfl h26)
          refine Ev_aload rfl rfl rfl ?_
          refine Ev_callV rfl rfl rfl rfl rfl (same_n 402) (m_look _ (s := .inr q) hρ hT s19) ?_
          rintro v31 ρ31 σ31 ⟨⟨x, rfl, hx⟩, e31, s31, c31⟩
          obtain rfl := e31.symm
          have hx := hx rfl
          subst hx
          refine Ev_istore rfl ?_
          refine Ev_iload rfl rfl ?_
          refine Ev_const rfl ?_
          refine Ev_icmp_eq rfl (fun h38 => absurd (ev60.mp h38) n1) (fun h38 => ?_)
          refine Ev_iload rfl rfl ?_
          refine Ev_const rfl ?_
          refine Ev_icmp_eq rfl (fun h44 => absurd (ev62.mp h44) n2) (fun h44 => ?_)
          refine Ev_iload rfl rfl ?_
          refine Ev_const rfl ?_
          refine Ev_icmp_eq rfl (fun h50 => absurd (ev61.mp h50) n3) (fun h50 => ?_)
          refine Ev_aload rfl rfl rfl ?_
          refine Ev_const rfl ?_
          refine Ev_aload rfl rfl rfl ?_
          refine Ev_getI rfl (by first | rfl | assumption) ?_
          refine Ev_norm s31.at0 ?_
          refine Ev_callV rfl rfl rfl rfl rfl (same_n 402) (m_fail _ (w := 1) (k := skp U q.1) s31 (by decide) (fun _ _ => rfl)) ?_
          rintro v59 ρ59 σ59 ⟨rfl, e59, s59, c59⟩
          obtain rfl := e59.symm
          exact Ev_return rfl rfl rfl ⟨rfl, rfl, s59, (fun z => by cases z), (c5.b.tr c19).tr (c31.b.tr c59.b)⟩
        | some t =>
          rw [hs] at hr
          have hr : (qsF U k f (.inr (skp U q.1 + 1, 0)) out1 o).bind (fun r2 => some (r2.1, r2.2 ++ [t])) = some r := hr
          obtain ⟨c, hcc, hmc⟩ : ∃ c, ((c = 60 ∧ t = 40) ∨ (c = 62 ∧ t = 41) ∨ (c = 61 ∧ t = 42)) ∧ mC U (.inr q) = some c := by
            rcases sgQ_c hs with ⟨z1, z2⟩ | ⟨z1, z2⟩ | ⟨z1, z2⟩
            · exact ⟨60, Or.inl ⟨rfl, z2⟩, z1⟩
            · exact ⟨62, Or.inr (Or.inl ⟨rfl, z2⟩), z1⟩
            · exact ⟨61, Or.inr (Or.inr ⟨rfl, z2⟩), z1⟩
          have hat := (mC_at hmc).1
          have fin : ∀ (σ2 : St), MTt σ2 U (.inr (skp U q.1, tcN U q.1 q.2)) → MPq σ2 out1 u o → out1.length + u.length + P ≤ q.1 → MB σ σ2 → Ev l X (d + 7) 276 63 [.ref 326, .int (nI c)] [] 402 402 402 ρ σ2 (fun v' ρ' σ' => v' = none ∧ ρ' = ρ ∧ MTt σ' U r.1 ∧ (isOk r.1 = true → MPq σ' r.2 u o ∧ r.2.length + u.length + P ≤ rpos r.1) ∧ MB σ σ') := by
            intro σ2 s2 q2 l2 c2
            refine Ev_aload rfl rfl rfl ?_
            refine Ev_dup rfl (fun _ q => nomatch q) ?_
            refine Ev_getI rfl (by first | rfl | assumption) ?_
            refine Ev_norm s2.at0 ?_
            refine Ev_const rfl ?_
            refine Ev_iadd rfl ?_
            refine Ev_norm (nI_1 (skp U q.1)) ?_
            refine Ev_putI rfl (by first | rfl | assumption) ⟨rfl, rfl⟩ rfl ?_
            refine (m_factEnd d (p := (skp U q.1 + 1, 0)) hρ hT hk hv (s2.on1 hat hT) ((hW.b c2).mx (mx_put _ rfl)) (by rw [sR_0, pk_un (by decide), c2.2.2 _ rfl]; exact hK) (q2.mx (mx_put _ rfl)) (by show _ ≤ skp U q.1 + 1; omega) hcc hr).mono (fun v' ρ' σ' h => ⟨h.1, h.2.1, h.2.2.1, h.2.2.2.1, (c2.tr (mx_put _ rfl).b).tr h.2.2.2.2⟩)
          refine T_of rfl ?_
          refine Ev_aload rfl rfl rfl ?_
          refine Ev_aload rfl rfl rfl ?_
          refine Ev_getR rfl (by first | rfl | assumption) (hρ _ _ _ rfl) ?_
          refine Ev_callV rfl rfl rfl rfl rfl (same_n 402) (m_takes _ hρ hT hW (k := 384) (w := [97, 108, 108]) (by decide) H) ?_
          rintro v5 ρ5 σ5 ⟨rfl, e5, s5, c5⟩
          refine Ev_norm (congrArg bI (decide_eq_false hA) : _ = bI false) ?_
          obtain rfl := e5.symm
          rw [e3] at s5
          refine Ev_if_eq rfl (fun h8 => ?_) (fun h8 => absurd rfl h8)
          refine Ev_aload rfl rfl rfl ?_
          refine Ev_callV rfl rfl rfl rfl rfl (same_n 402) (m_qSumsX _ (P := P) (p := (skp U p.1, tcN U p.1 p.2)) hρ hT hk hv s5 (hW.mx c5) (by rw [c5.2.2 _ rfl]; exact hK) (hq.mx c5) (by show _ ≤ skp U p.1; omega) hs1) ?_
          rintro v19 ρ19 σ19 ⟨rfl, e19, s19, q19, d19, c19⟩
          obtain rfl := e19.symm
          obtain ⟨k1, k2⟩ := q19 rfl
          refine Ev_aload rfl rfl rfl ?_
          refine Ev_getI rfl (by first | rfl | assumption) ?_
          refine Ev_norm (MTt.bad0 (p := q) s19) ?_
          refine Ev_if_eq rfl (fun h26 => ?_) (fun h26 => absurd rfl h26)
          refine Ev_aload rfl rfl rfl ?_
          refine Ev_callV rfl rfl rfl rfl rfl (same_n 402) (m_look _ (s := .inr q) hρ hT s19) ?_
          rintro v31 ρ31 σ31 ⟨⟨x, rfl, hx⟩, e31, s31, c31⟩
          obtain rfl := e31.symm
          have hx := hx rfl
          subst hx
          refine Ev_norm (show lkV (mC U (.inr q)) = nI c by rw [hmc]; rfl) ?_
          refine Ev_istore rfl ?_
          refine Ev_iload rfl rfl ?_
          refine Ev_const rfl ?_
          refine Ev_icmp_eq rfl (fun h38 => ?_) (fun h38 => ?_)
          · exact fin σ31 s31 (k1.mx c31) k2 ((c5.b.tr c19).tr c31.b)
          · refine Ev_iload rfl rfl ?_
            refine Ev_const rfl ?_
            refine Ev_icmp_eq rfl (fun h44 => ?_) (fun h44 => ?_)
            · exact fin σ31 s31 (k1.mx c31) k2 ((c5.b.tr c19).tr c31.b)
            · refine Ev_iload rfl rfl ?_
              refine Ev_const rfl ?_
              refine Ev_icmp_eq rfl (fun h50 => ?_) (fun h50 => absurd (show nI c = 61 by
              rcases hcc with ⟨rfl, -⟩ | ⟨rfl, -⟩ | ⟨rfl, -⟩
              · exact absurd rfl h38
              · exact absurd rfl h44
              · rfl) h50)
              exact fin σ31 s31 (k1.mx c31) k2 ((c5.b.tr c19).tr c31.b)
end S88zp
