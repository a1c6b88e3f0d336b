/-! A formula read by the reference: a test. -/
theorem stZ_01 {U : Tx} {k f : Nat} {z : Ys} {c : Nat × Ys} (h : stZ U k f z = some c) : c.1 = 0 ∨ c.1 = 1 := by
  unfold stZ at h
  split at h
  · cases h; exact Or.inl rfl
  · split at h
    · cases h; exact Or.inl rfl
    · split at h
      · cases h; exact Or.inr rfl
      · cases hq : qsF U k f (skM U z.1) z.2.1 z.2.2.2 with
        | none => rw [hq] at h; cases h
        | some r =>
          rw [hq] at h
          have h : (bif isOk r.1 then (match sgQ (mC U r.1) with | none => some (1, (flA 1 0 (skM U r.1), r.2, z.2.2)) | some t => (qsF U k f (adv 1 0 (skM U r.1)) r.2 z.2.2.2).bind (fun r2 => some (1, dnZ r2.1 (r2.2 ++ [t]) z.2.2.1 z.2.2.2))) else some (1, (r.1, r.2, z.2.2))) = some c := h
          cases ho : isOk r.1 with
          | false => rw [ho] at h; cases h; exact Or.inr rfl
          | true =>
            rw [ho] at h
            cases hs : sgQ (mC U r.1) with
            | none => rw [hs] at h; cases h; exact Or.inr rfl
            | some t =>
              rw [hs] at h
              have h : (qsF U k f (adv 1 0 (skM U r.1)) r.2 z.2.2.2).bind (fun r2 => some (1, dnZ r2.1 (r2.2 ++ [t]) z.2.2.1 z.2.2.2)) = some c := h
              cases hq2 : qsF U k f (adv 1 0 (skM U r.1)) r.2 z.2.2.2 with
              | none => rw [hq2] at h; cases h
              | some r2 => rw [hq2] at h; cases h; exact Or.inr rfl
theorem stU_2 {U : Tx} {z : Ys} (h : (stU U z).1 = 2) (ho : isOk (stU U z).2.1 = true) : ¬ 1025 ∈ (stU U z).2.2.2.1 := by
  unfold stU at h ho ⊢
  split at h
  · exact absurd (show (1 : Nat) = 2 from h) (by decide)
  · rename_i g1
    rw [if_neg g1] at ho ⊢
    split at h
    · exact absurd (show (0 : Nat) = 2 from h) (by decide)
    · rename_i g2
      rw [if_neg g2] at ho ⊢
      split at h
      · exact absurd (show (0 : Nat) = 2 from h) (by decide)
      · rename_i g3
        rw [if_neg g3] at ho ⊢
        by_cases g4 : 1025 ∈ z.2.2.1
        · rw [if_pos g4] at ho
          have ho : isOk (flA 1 0 (skM U z.1)) = true := ho
          rw [flA_no] at ho; cases ho
        · rw [if_neg g4]; exact g4
theorem stU_012 (U : Tx) (z : Ys) : (stU U z).1 = 0 ∨ (stU U z).1 = 1 ∨ (stU U z).1 = 2 := by
  unfold stU
  split
  · exact Or.inr (Or.inl rfl)
  · split
    · exact Or.inl rfl
    · split
      · exact Or.inl rfl
      · split
        · exact Or.inr (Or.inr rfl)
        · exact Or.inr (Or.inr rfl)
/-- where it ends well, no square is open -/
theorem runZ_b {U : Tx} {k : Nat} : ∀ (f c : Nat) (z r : Ys), runZ U k f (c, z) = some r → (c = 2 → isOk z.1 = true → ¬ 1025 ∈ z.2.2.1) → isOk r.1 = true → ¬ 1025 ∈ r.2.2.1 := by
  intro f
  induction f with
  | zero => intro c z r h; cases h
  | succ f ih =>
    intro c z r h hc ho
    have h : (if isOk z.1 = false ∨ c = 2 then some z else if c = 0 then (stZ U k f z).bind (runZ U k f) else runZ U k f (stU U z)) = some r := h
    by_cases hs : isOk z.1 = false ∨ c = 2
    · rw [if_pos hs] at h
      cases h
      rcases hs with q | q
      · rw [q] at ho; cases ho
      · exact hc q ho
    · rw [if_neg hs] at h
      by_cases h0 : c = 0
      · rw [if_pos h0] at h
        cases hq : stZ U k f z with
        | none => rw [hq] at h; cases h
        | some c' =>
          rw [hq] at h
          exact ih c'.1 c'.2 r h (fun q => by rcases stZ_01 hq with w | w <;> omega) ho
      · rw [if_neg h0] at h
        exact ih (stU U z).1 (stU U z).2 r h (fun q w => stU_2 q w) ho
section S88zr
variable {l : Launch} {X : Cx} {ρ : Rf} {U : Tx}
/-- what still waits is told -/
theorem m_testDrop (d : Nat) {p : Nat × Nat} (hρ : RF ρ) (L1 L2 : Value) {Q : Po} : ∀ (w out : List Nat) (σ : St), MPc σ out w → MTt σ U (.inr p) → (∀ e, e ∈ w → ec e = mc e) → out.length + w.length < 1700 →
    (∀ σ', MPc σ' (out ++ w) [] → MW σ σ' → Q none ρ σ') →
    Ev l X (d + 2) 279 110 [.ref 326, L1, L2] [] 402 402 402 ρ σ Q := by
  intro w
  induction w with
  | nil =>
    intro out σ H Ht _ hn hQ
    refine Ev_aload rfl rfl rfl ?_
    refine Ev_getI rfl (by first | rfl | assumption) ?_
    refine Ev_norm Ht.bad0 ?_
    refine Ev_if_ne rfl (fun h114 => absurd rfl h114) (fun h114 => ?_)
    refine Ev_aload rfl rfl rfl ?_
    refine Ev_getI rfl (by first | rfl | assumption) ?_
    refine Ev_norm (H.2.2.1 : _ = nI 0) ?_
    refine Ev_if_le rfl (fun h121 => ?_) (fun h121 => absurd (by decide) h121)
    exact Ev_return rfl rfl rfl (hQ σ (by rw [List.append_nil]; exact H) (MF.rf _ _ _))
  | cons e w ih =>
    intro out σ H Ht he hn hQ
    rw [List.length_cons] at hn
    refine Ev_aload rfl rfl rfl ?_
    refine Ev_getI rfl (by first | rfl | assumption) ?_
    refine Ev_norm Ht.bad0 ?_
    refine Ev_if_ne rfl (fun h114 => absurd rfl h114) (fun h114 => ?_)
    refine Ev_aload rfl rfl rfl ?_
    refine Ev_getI rfl (by first | rfl | assumption) ?_
    refine Ev_norm (H.2.2.1 : _ = nI (w.length + 1)) ?_
    refine Ev_if_le rfl (fun h121 => absurd h121 (by show ¬ nI (w.length + 1) ≤ 0; rw [Int32.le_iff_toInt_le, nI_toInt (by omega)]; have : (0 : Int32).toInt = 0 := rfl; omega)) (fun h121 => ?_)
    refine Ev_aload rfl rfl rfl ?_
    refine Ev_callV rfl rfl rfl rfl rfl (same_n 402) (m_qDrops _ (W := w) hρ H (by omega) (by omega) (he e List.mem_cons_self)) ?_
    rintro v125 ρ125 σ125 ⟨rfl, e125, s125, c125⟩
    obtain rfl := e125.symm
    refine Ev_goto rfl ?_
    refine ih (out ++ [e]) σ125 s125 (Ht.mz c125.z) (fun x hx => he x (List.mem_cons_of_mem e hx)) (by rw [List.length_append]; show out.length + 1 + _ < _; omega) (fun σ' h1 h2 => hQ σ' ?_ (c125.tr h2))
    rw [List.append_assoc] at h1
    exact h1
/-- what opens is put on the pile of a test -/
theorem MZs.opn {σ' : St} {e : Nat} {s : Rdg} {out w : List Nat} {o P : Nat} {f : Rdg → Rdg} (he : e ∈ [33, 43, 44, 1025]) (ho : okT w) (hl : out.length + w.length + P ≤ rpos s)
    (H : MTt σ' U (f (qOpY e (s, out, w, o)).1)) (hq : isOk (qOpY e (s, out, w, o)).1 = true → MPq σ' out (e :: w) (o + 1)) (hf : ∀ p, isOk (f (.inr p)) = true → p.1 + 1 ≤ rpos (f (.inr p))) (hf2 : ∀ e', f (.inl e') = .inl e') :
    MZs P σ' U (onY f (qOpY e (s, out, w, o))) := by
  refine ⟨H, fun z => ?_⟩
  have z2 : isOk (f (qOpY e (s, out, w, o)).1) = true := z
  clear z
  cases hs : (qOpY e (s, out, w, o)).1 with
  | inl e' => rw [hs, hf2] at z2; cases z2
  | inr p =>
    obtain ⟨q1, q2⟩ := (qOp_app e s out w [] o).2 (by rw [hs]; rfl)
    have hq2 := hq (by rw [hs]; rfl)
    rw [hs] at z2
    rw [q1] at hs ⊢
    have hs2 : s = .inr p := hs
    rw [hs2] at hl ⊢
    refine ⟨hq2, okT_p he ho, ?_⟩
    show out.length + (w.length + 1) + P ≤ rpos (f (.inr p))
    have := hf p z2
    have hl2 : out.length + w.length + P ≤ p.1 := hl
    omega
theorem m_testLoop (d : Nat) {k P : Nat} {r : Ys} (hρ : RF ρ) (hT : TxW U) (hk : k < 5) {Q : Po} {σ0 : St} (hQ : ∀ σ' L1 L2, MZs P σ' U r → MB σ0 σ' → Ev l X (d + 8) 279 110 [.ref 326, L1, L2] [] 402 402 402 ρ σ' Q) : ∀ (n f : Nat) (z : Ys) (σ : St) (L2 : Value), f ≤ n → MZs P σ U z → Wds σ → σ.1 326 50 = nI k → MB σ0 σ → runZ U k f (0, z) = some r →
    Ev l X (d + 8) 279 2 [.ref 326, .int 1, L2] [] 402 402 402 ρ σ Q := by
  have h16 := hT.1
  intro n
  induction n with
  | zero => intro f z σ L2 hf _ _ _ _ h; obtain rfl : f = 0 := (by omega); cases h
  | succ n ih =>
    intro f z σ L2 hf HZ hW hK hM hr
    have inl : ∀ (z : Ys) (σ : St) (L1 L2 : Value) (c f : Nat), MZs P σ U z → MB σ0 σ → isOk z.1 = false → runZ U k f (c, z) = some r → Ev l X (d + 8) 279 110 [.ref 326, L1, L2] [] 402 402 402 ρ σ Q := fun z σ L1 L2 c f HZ hM ho hr => by
      rw [runZ_r hr (Or.inl ho)] at HZ
      exact hQ σ L1 L2 HZ hM
    obtain ⟨s, out, w, o⟩ := z
    cases s with
    | inl e =>
      obtain ⟨z, hz, hz0⟩ := MTt.badE (e := e) HZ.1
      refine Ev_iload rfl rfl ?_
      refine Ev_if_eq rfl (fun h3 => absurd h3 (show ¬ (1 : Int32) = 0 by decide)) (fun h3 => ?_)
      refine Ev_aload rfl rfl rfl ?_
      refine Ev_getI rfl (by first | rfl | assumption) ?_
      refine Ev_norm hz ?_
      refine Ev_if_ne rfl (fun h10 => ?_) (fun h10 => ?_)
      · exact inl _ σ _ _ 0 f HZ hM rfl hr
      · exact absurd hz0 h10
    | inr p =>
      have H : MTt σ U (.inr p) := HZ.1
      obtain ⟨hq, ho, hl⟩ := HZ.2 rfl
      have hq : MPq σ out w o := hq
      have ho : okT w := ho
      have hl : out.length + w.length + P ≤ p.1 := hl
      have hp : p.1 ≤ U.1 := H.le
      have hup := skp_up U p.1
      have sk := skM_i U (.inr p)
      obtain ⟨g, c', hg, hst, hr⟩ := runZ_t hr rfl
      have hev := lkV_eq (mC_256 hT (s := .inr p)) (show 91 < 256 by decide)
      have next : ∀ (z : Ys) (σ2 : St) (M2 : Value), MZs P σ2 U z → MB σ σ2 → runZ U k g (0, z) = some r → Ev l X (d + 8) 279 2 [.ref 326, .int 1, M2] [] 402 402 402 ρ σ2 Q :=
        fun z σ2 M2 hz c2 hr2 => ih g z σ2 M2 (by omega) hz (hW.b c2) (by rw [c2.2.2 _ rfl]; exact hK) (hM.tr c2) hr2
      by_cases hA : mC U (.inr p) = some 91
      · have eS : stZ U k g (.inr p, out, w, o) = some (0, onY (adv 1 0) (qOpY 1025 (skM U (.inr p), out, w, o))) := if_pos hA
        rw [eS] at hst
        cases hst
        have hone : ∀ q, (qOpY 1025 (skM U (.inr p), out, w, o)).1 = .inr q → q.1 = skp U p.1 := fun q z => by
          have := ((qOp_app 1025 (skM U (.inr p)) out w [] o).2 (by rw [z]; rfl)).1
          rw [this] at z
          have z : skM U (.inr p) = .inr q := z
          cases z; rfl
        refine Ev_iload rfl rfl ?_
        refine Ev_if_eq rfl (fun h3 => absurd h3 (show ¬ (1 : Int32) = 0 by decide)) (fun h3 => ?_)
        refine Ev_aload rfl rfl rfl ?_
        refine Ev_getI rfl (by first | rfl | assumption) ?_
        refine Ev_norm H.bad0 ?_
        refine Ev_if_ne rfl (fun h10 => absurd rfl h10) (fun h10 => ?_)
        refine Ev_aload rfl rfl rfl ?_
        refine Ev_callV rfl rfl rfl rfl rfl (same_n 402) (m_look _ hρ hT H) ?_
        rintro v14 ρ14 σ14 ⟨⟨x, rfl, hx⟩, e14, s14, c14⟩
        obtain rfl := e14.symm
        have hx := hx rfl
        subst hx
        refine Ev_istore rfl ?_
        refine Ev_iload rfl rfl ?_
        refine Ev_const rfl ?_
        refine Ev_icmp_ne rfl (fun h21 => absurd (hev.mpr hA) h21) (fun h21 => ?_)
        refine Ev_aload rfl rfl rfl ?_
        refine Ev_const rfl ?_
        refine Ev_norm (rfl : _ = nI (ec 1025)) ?_
        refine Ev_aload rfl rfl rfl ?_
        refine Ev_getI rfl (by first | rfl | assumption) ?_
        refine Ev_norm s14.at0 ?_
        refine Ev_callV rfl rfl rfl rfl rfl (same_n 402) (m_qOpens _ (e := 1025) hρ s14 (fun _ => hq.mx c14) (by omega) rfl (fun q hq => by cases hq; rfl)) ?_
        rintro v31 ρ31 σ31 ⟨rfl, e31, s31, q31, a31, c31⟩
        obtain rfl := e31.symm
        refine Ev_aload rfl rfl rfl ?_
        refine Ev_dup rfl (fun _ q => nomatch q) ?_
        refine Ev_getI rfl (by first | rfl | assumption) ?_
        refine Ev_norm (a31.1.trans s14.at0 : _ = nI (skp U p.1)) ?_
        refine Ev_const rfl ?_
        refine Ev_iadd rfl ?_
        refine Ev_norm (nI_1 (skp U p.1)) ?_
        refine Ev_putI rfl (by first | rfl | assumption) ⟨rfl, rfl⟩ rfl ?_
        refine Ev_goto rfl ?_
        exact next _ _ _ (MZs.opn (P := P) (e := 1025) (s := skM U (.inr p)) (f := adv 1 0) (by decide) ho (by show _ ≤ skp U p.1; omega) (s31.onE hT (mC_at hA).1 hone) (fun z => (q31 z).mx (mx_put _ rfl)) (fun q _ => Nat.le_refl _) (fun _ => rfl)) (c14.b.tr (c31.tr (mx_put (nI (skp U p.1 + 1)) rfl).b)) hr
      · by_cases hB : mWd U (.inr p) = wNot
        · have eS : stZ U k g (.inr p, out, w, o) = some (0, onY (adv 3 1) (qOpY 33 (skM U (.inr p), out, w, o))) := by
            unfold stZ; rw [if_neg hA, if_pos hB]
          rw [eS] at hst
          cases hst
          have hak : mAk U [110, 111, 116] (qOpY 33 (skM U (.inr p), out, w, o)).1 = adv 3 1 (qOpY 33 (skM U (.inr p), out, w, o)).1 := by
            cases hz : (qOpY 33 (skM U (.inr p), out, w, o)).1 with
            | inl e' => unfold mAk; rw [if_neg (show ¬ mWd U (.inl e') = [110, 111, 116] from fun z => by cases z)]; rfl
            | inr q =>
              have := ((qOp_app 33 (skM U (.inr p)) out w [] o).2 (by rw [hz]; rfl)).1
              rw [this] at hz
              have hz : skM U (.inr p) = .inr q := hz
              rw [← hz]
              exact mAk_sk hB (by decide)
          refine Ev_iload rfl rfl ?_
          refine Ev_if_eq rfl (fun h3 => absurd h3 (show ¬ (1 : Int32) = 0 by decide)) (fun h3 => ?_)
          refine Ev_aload rfl rfl rfl ?_
          refine Ev_getI rfl (by first | rfl | assumption) ?_
          refine Ev_norm H.bad0 ?_
          refine Ev_if_ne rfl (fun h10 => absurd rfl h10) (fun h10 => ?_)
          refine Ev_aload rfl rfl rfl ?_
          refine Ev_callV rfl rfl rfl rfl rfl (same_n 402) (m_look _ hρ hT H) ?_
          rintro v14 ρ14 σ14 ⟨⟨x, rfl, hx⟩, e14, s14, c14⟩
          obtain rfl := e14.symm
          have hx := hx rfl
          subst hx
          refine Ev_istore rfl ?_
          refine Ev_iload rfl rfl ?_
          refine Ev_const rfl ?_
          refine Ev_icmp_ne rfl (fun h21 => ?_) (fun h21 => absurd (fun z => hA (hev.mp z)) h21)
          refine Ev_aload rfl rfl rfl ?_
          refine Ev_aload rfl rfl rfl ?_
          refine Ev_getR rfl (by first | rfl | assumption) (hρ _ _ _ rfl) ?_
          refine Ev_callV rfl rfl rfl rfl rfl (same_n 402) (m_isHere _ hρ hT (hW.mx c14) (k := 381) (w := [110, 111, 116]) (by decide) s14) ?_
          rintro v52 ρ52 σ52 ⟨rfl, e52, s52, c52⟩
          refine Ev_norm (by rw [sk.2.2.1]; exact congrArg bI (decide_eq_true hB) : _ = bI true) ?_
          obtain rfl := e52.symm
          rw [sk.1] at s52
          refine Ev_if_eq rfl (fun h55 => absurd h55 (show ¬ bI true = 0 by decide)) (fun h55 => ?_)
          refine Ev_aload rfl rfl rfl ?_
          refine Ev_const rfl ?_
          refine Ev_norm (rfl : _ = nI (ec 33)) ?_
          refine Ev_aload rfl rfl rfl ?_
          refine Ev_getI rfl (by first | rfl | assumption) ?_
          refine Ev_norm s52.at0 ?_
          refine Ev_callV rfl rfl rfl rfl rfl (same_n 402) (m_qOpens _ (e := 33) hρ s52 (fun _ => (hq.mx c14).mx c52) (by omega) rfl (fun q hq => by cases hq; rfl)) ?_
          rintro v65 ρ65 σ65 ⟨rfl, e65, s65, q65, a65, c65⟩
          obtain rfl := e65.symm
          refine Ev_aload rfl rfl rfl ?_
          refine Ev_aload rfl rfl rfl ?_
          refine Ev_getR rfl (by first | rfl | assumption) (hρ _ _ _ rfl) ?_
          refine Ev_callV rfl rfl rfl rfl rfl (same_n 402) (m_asks _ hρ hT (((hW.mx c14).mx c52).b c65) (k := 381) (w := [110, 111, 116]) (by decide) s65) ?_
          rintro v73 ρ73 σ73 ⟨rfl, e73, s73, c73⟩
          obtain rfl := e73.symm
          rw [hak] at s73
          refine Ev_goto rfl ?_
          exact next _ _ _ (MZs.opn (P := P) (e := 33) (s := skM U (.inr p)) (f := adv 3 1) (by decide) ho (by show _ ≤ skp U p.1; omega) s73 (fun z => (q65 z).mx c73) (fun q _ => by show q.1 + 1 ≤ q.1 + 3; omega) (fun _ => rfl)) ((c14.b.tr c52.b).tr (c65.tr c73.b)) hr
        · rw [stZ_fc hA hB] at hst
          cases hfc : fcZ U k g (.inr p) out o with
          | none => rw [hfc] at hst; cases hst
          | some r1 =>
            rw [hfc] at hst
            have hst : (1, dnZ r1.1 r1.2 w o) = c' := Option.some.inj hst
            subst hst
            have hfc2 : fcZ U k g (.inr (skp U p.1, tcN U p.1 p.2)) out o = some r1 := by
              unfold fcZ at hfc ⊢
              rw [show ((.inr (skp U p.1, tcN U p.1 p.2) : Rdg)) = skM U (.inr p) from rfl, sk.2.2.1, sk.1]
              exact hfc
            have e1 := dnZ_s r1.1 w r1.2 o
            refine Ev_iload rfl rfl ?_
            refine Ev_if_eq rfl (fun h3 => absurd h3 (show ¬ (1 : Int32) = 0 by decide)) (fun h3 => ?_)
            refine Ev_aload rfl rfl rfl ?_
            refine Ev_getI rfl (by first | rfl | assumption) ?_
            refine Ev_norm H.bad0 ?_
            refine Ev_if_ne rfl (fun h10 => absurd rfl h10) (fun h10 => ?_)
            refine Ev_aload rfl rfl rfl ?_
            refine Ev_callV rfl rfl rfl rfl rfl (same_n 402) (m_look _ hρ hT H) ?_
            rintro v14 ρ14 σ14 ⟨⟨x, rfl, hx⟩, e14, s14, c14⟩
            obtain rfl := e14.symm
            have hx := hx rfl
            subst hx
            refine Ev_istore rfl ?_
            refine Ev_iload rfl rfl ?_
            refine Ev_const rfl ?_
            refine Ev_icmp_ne rfl (fun h21 => ?_) (fun h21 => absurd (fun z => hA (hev.mp z)) h21)
            refine Ev_aload rfl rfl rfl ?_
            refine Ev_aload rfl rfl rfl ?_
            refine Ev_getR rfl (by first | rfl | assumption) (hρ _ _ _ rfl) ?_
            refine Ev_callV rfl rfl rfl rfl rfl (same_n 402) (m_isHere _ hρ hT (hW.mx c14) (k := 381) (w := [110, 111, 116]) (by decide) s14) ?_
            rintro v52 ρ52 σ52 ⟨rfl, e52, s52, c52⟩
            refine Ev_norm (by rw [sk.2.2.1]; exact congrArg bI (decide_eq_false hB) : _ = bI false) ?_
            obtain rfl := e52.symm
            rw [sk.1] at s52
            refine Ev_if_eq rfl (fun h55 => ?_) (fun h55 => absurd rfl h55)
            refine Ev_aload rfl rfl rfl ?_
            refine Ev_callV rfl rfl rfl rfl rfl (same_n 402) (m_qFact _ (P := P) (p := (skp U p.1, tcN U p.1 p.2)) hρ hT hk ho s52 ((hW.mx c14).mx c52) (by rw [c52.2.2 _ rfl, c14.2.2 _ rfl]; exact hK) ((hq.mx c14).mx c52) (by show _ ≤ skp U p.1; omega) hfc2) ?_
            rintro v80 ρ80 σ80 ⟨rfl, e80, s80, q80, c80⟩
            obtain rfl := e80.symm
            refine Ev_aload rfl rfl rfl ?_
            refine Ev_callV rfl rfl rfl rfl rfl (same_n 402) (T_of rfl (m_qDropsNots _ hρ w r1.2 o r1.1 σ80 s80 (fun z => ⟨(q80 z).1, ho, by have := (q80 z).2; have := s80.rle z; omega⟩))) ?_
            rintro v84 ρ84 σ84 ⟨rfl, e84, s84, q84, c84⟩
            obtain rfl := e84.symm
            have cc : MB σ σ84 := ((c14.b.tr c52.b).tr c80).tr c84
            have HZ1 : MZs P σ84 U (dnZ r1.1 r1.2 w o) := ⟨by rw [e1]; exact s84, fun z => by
              rw [e1] at z
              obtain ⟨z1, z2, z3⟩ := q84 z
              refine ⟨z1, z2, ?_⟩
              rw [z3, e1]
              exact (q80 z).2⟩
            have hM1 := hM.tr cc
            generalize dnZ r1.1 r1.2 w o = y1 at *
            obtain ⟨s1, o1, w1, n1⟩ := y1
            cases s1 with
            | inl e =>
              obtain ⟨z, hz, hz0⟩ := MTt.badE (e := e) HZ1.1
              refine Ev_aload rfl rfl rfl ?_
              refine Ev_getI rfl (by first | rfl | assumption) ?_
              refine Ev_norm hz ?_
              refine Ev_if_ne rfl (fun h91 => ?_) (fun h91 => absurd hz0 h91)
              refine Ev_const rfl ?_
              refine Ev_istore rfl ?_
              refine Ev_goto rfl ?_
              refine Ev_iload rfl rfl ?_
              refine Ev_if_eq rfl (fun h3 => ?_) (fun h3 => absurd rfl h3)
              exact inl _ σ84 _ _ 1 g HZ1 hM1 rfl hr
            | inr q =>
              refine Ev_aload rfl rfl rfl ?_
              refine Ev_getI rfl (by first | rfl | assumption) ?_
              refine Ev_norm (MTt.bad0 (p := q) HZ1.1) ?_
              refine Ev_if_ne rfl (fun h91 => absurd rfl h91) (fun h91 => ?_)
              refine Ev_aload rfl rfl rfl ?_
              refine Ev_callV rfl rfl rfl rfl rfl (same_n 402) (T_of rfl (m_goTest (d + 3) (P := P) hρ hT g q o1 w1 n1 σ84 HZ1 (hW.b cc) hr)) ?_
              rintro v95 ρ95 σ95 ⟨e95, c95, h95⟩
              obtain rfl := e95.symm
              rcases h95 with ⟨rfl, f2, y2, hf2, ho2, hr2, HY2⟩ | ⟨rfl, HY2⟩
              · refine Ev_if_eq rfl (fun h98 => absurd h98 (show ¬ (1 : Int32) = 0 by decide)) (fun h98 => ?_)
                refine Ev_const rfl ?_
                refine Ev_goto rfl ?_
                refine Ev_istore rfl ?_
                refine Ev_goto rfl ?_
                exact ih f2 y2 σ95 _ (by omega) HY2 (hW.b (cc.tr c95)) (by rw [c95.2.2 _ rfl, cc.2.2 _ rfl]; exact hK) (hM1.tr c95) hr2
              · refine Ev_if_eq rfl (fun h98 => ?_) (fun h98 => absurd rfl h98)
                refine Ev_const rfl ?_
                refine Ev_istore rfl ?_
                refine Ev_goto rfl ?_
                refine Ev_iload rfl rfl ?_
                refine Ev_if_eq rfl (fun h3 => ?_) (fun h3 => absurd rfl h3)
                exact hQ σ95 _ _ HY2 (hM1.tr c95)
theorem m_qTest (d : Nat) {σ : St} {k f P : Nat} {z r : Ys} (hρ : RF ρ) (hT : TxW U) (hk : k < 5) (HZ : MZs P σ U z) (hW : Wds σ) (hK : σ.1 326 50 = nI k) (hr : runZ U k f (0, z) = some r) :
    T l X (d + 8) 279 [.ref 326] 402 402 ρ σ (fun v' ρ' σ' => v' = none ∧ ρ' = ρ ∧ MTt σ' U r.1 ∧ (isOk r.1 = true → MPc σ' (r.2.1 ++ r.2.2.1) [] ∧ (r.2.1 ++ r.2.2.1).length + P ≤ rpos r.1) ∧ MB σ σ') := by
  have h16 := hT.1
  refine T_of rfl ?_
  refine Ev_const rfl ?_
  refine Ev_istore rfl ?_
  refine m_testLoop d (P := P) (σ0 := σ) hρ hT hk (fun σ' L1 L2 HY c => ?_) f f z σ _ (Nat.le_refl _) HZ hW hK (MF.rf _ _ _) hr
  obtain ⟨g1, g3⟩ := HY
  cases hs : r.1 with
  | inl e =>
    obtain ⟨z, hz, hz0⟩ := MTt.badE (e := e) (by rw [← hs]; exact g1)
    refine Ev_aload rfl rfl rfl ?_
    refine Ev_getI rfl (by first | rfl | assumption) ?_
    refine Ev_norm hz ?_
    refine Ev_if_ne rfl (fun h114 => ?_) (fun h114 => absurd hz0 h114)
    exact Ev_return rfl rfl rfl ⟨rfl, rfl, by rw [← hs]; exact g1, (fun z => by cases z), c⟩
  | inr q =>
    have hok : isOk r.1 = true := by rw [hs]; rfl
    obtain ⟨k1, k2, k3⟩ := g3 hok
    have hle : q.1 ≤ U.1 := by rw [hs] at g1; exact g1.le
    have hrp : rpos r.1 = q.1 := by rw [hs]; rfl
    have hbz := runZ_b f 0 _ r hr (fun z => absurd z (by decide)) hok
    rw [← hs]
    refine m_testDrop (d + 6) (p := q) hρ _ _ r.2.2.1 r.2.1 σ' k1.1 (by rw [← hs]; exact g1) (fun e he => (ec_T e (k2 e he)).2.2.2.1 (fun z => hbz (by rw [← z]; exact he))) (by omega) (fun σ2 p2 c2 => ⟨rfl, rfl, g1.mz c2.z, fun _ => ⟨p2, by rw [List.length_append]; exact k3⟩, c.tr c2.b⟩)
end S88zr
