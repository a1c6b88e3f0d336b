/-! A beach read by the reference: a statement. -/
theorem cf_lk {U : Tx} {p : Nat × Nat} (h : lkS U (.inr p) = .inr p) : cfT U p = false := by
  cases hz : cfT U p with
  | false => rfl
  | true => rw [(cf_yes hz).1] at h; cases h
theorem mTk_y {U : Tx} {s : Rdg} {w : List Nat} (h : mWd U s = w) : mTk U w s = adv w.length 1 (skM U s) := if_pos h
theorem mTk_n {U : Tx} {s : Rdg} {w : List Nat} (h : ¬ mWd U s = w) : mTk U w s = skM U s := if_neg h
section S88zy
variable {l : Launch} {X : Cx} {ρ : Rf} {U : Tx} {Bo B : Bh}
/-- a state that stands where a look has been -/
def LkO (U : Tx) (p : Nat × Nat) : Prop := Ivr U (.inr p) ∧ skM U (.inr p) = .inr p ∧ mWd U (.inr p) = wAt U (.inr p) ∧ lkS U (.inr p) = .inr p
theorem LkO.of {p : Nat × Nat} (hI : Ivr U (.inr p)) (h : lkS U (.inr p) = .inr p) : LkO U p := by
  obtain ⟨c1, c2, c3, -⟩ := cf_no hI (cf_lk h)
  exact ⟨hI, by rw [← c1]; exact h, c3.symm, h⟩
theorem LkO.tw {p : Nat × Nat} (h : LkO U p) {w : List Nat} (hw : wAt U (.inr p) = w) : mTk U w (.inr p) = tWd U w (.inr p) := by
  rw [mTk_y (by rw [h.2.2.1]; exact hw), tWd_y hw, h.2.1, h.2.2.2]
theorem m_hop0 (d : Nat) {σ : St} {p : Nat × Nat} {x : Int32} (hρ : RF ρ) (hT : TxW U) (hL : LkO U p) (H : MSt σ U Bo B (.inr p)) (hne : ¬ wAt U (.inr p) = kw 0) {Q : Po} (hQ : ∀ σ', MSt σ' U Bo B (.inr p) → MX σ σ' → Ev l X (d + 10) 188 40 [.ref 326, .int x] [] 402 402 402 ρ σ' Q) :
    Ev l X (d + 10) 188 21 [.ref 326, .int x] [] 402 402 402 ρ σ Q := by
  have hne : ¬ mWd U (.inr p) = kw 0 := by rw [hL.2.2.1]; exact hne
  refine Ev_aload rfl rfl rfl ?_
  refine Ev_aload rfl rfl rfl ?_
  refine Ev_getR rfl (by first | rfl | assumption) (hρ _ _ _ rfl) ?_
  refine Ev_callV rfl rfl rfl rfl rfl (same_n 402) (m_takes _ hρ hT H.2.1 (k := 329) (w := kw 0) (by decide) H.1) ?_
  rintro v26 ρ26 σ26 ⟨rfl, e1, s1, c1⟩
  refine Ev_norm (congrArg bI (decide_eq_false hne) : _ = bI false) ?_
  obtain rfl := e1.symm
  rw [mTk_n hne, hL.2.1] at s1
  refine Ev_if_eq rfl (fun h29 => ?_) (fun h29 => absurd rfl h29)
  exact hQ _ (H.mx s1 c1) c1
theorem m_hit0 (d : Nat) {σ : St} {p : Nat × Nat} (hρ : RF ρ) (hT : TxW U) (hB : WfB B) (hfl : flen B ≤ p.1) (hL : LkO U p) (H : MSt σ U Bo B (.inr p)) (hw : wAt U (.inr p) = kw 0) {Q : Po} (hQ : ∀ σ', (∃ s, MTt σ' U s ∧ Lag U s (idR U p.1 (tWd U (kw 0) (.inr p), B)).1) → Wds σ' → MOld σ' Bo → (isOk (idR U p.1 (tWd U (kw 0) (.inr p), B)).1 = true → MNew σ' (idR U p.1 (tWd U (kw 0) (.inr p), B)).2) → MRe σ σ' → Ev l X (d + 10) 188 198 [.ref 326, .int (nI p.1)] [] 402 402 402 ρ σ' Q) :
    Ev l X (d + 10) 188 21 [.ref 326, .int (nI p.1)] [] 402 402 402 ρ σ Q := by
  have hwm : mWd U (.inr p) = kw 0 := by rw [hL.2.2.1]; exact hw
  have hwI0 : Ivr U (tWd U (kw 0) (.inr p)) := (wf_tW (x := (.inr p, B)) (w := kw 0) (by decide) hw ⟨hL.1, fun _ => ⟨hB, hfl⟩⟩).1
  refine Ev_aload rfl rfl rfl ?_
  refine Ev_aload rfl rfl rfl ?_
  refine Ev_getR rfl (by first | rfl | assumption) (hρ _ _ _ rfl) ?_
  refine Ev_callV rfl rfl rfl rfl rfl (same_n 402) (m_takes _ hρ hT H.2.1 (k := 329) (w := kw 0) (by decide) H.1) ?_
  rintro v26 ρ26 σ26 ⟨rfl, e1, s1, c1⟩
  refine Ev_norm (congrArg bI (decide_eq_true hwm) : _ = bI true) ?_
  obtain rfl := e1.symm
  rw [hL.tw hw] at s1
  refine Ev_if_eq rfl (fun h29 => absurd h29 (show ¬ bI true = 0 by decide)) (fun h29 => ?_)
  refine Ev_aload rfl rfl rfl ?_
  refine Ev_iload rfl rfl ?_
  refine Ev_callV rfl rfl rfl rfl rfl (same_n 402) (m_ideaTold _ hρ hT hB hwI0 (H.mx s1 c1)) ?_
  rintro v34 ρ34 σ34 ⟨rfl, e2, s2, w2, o2, n2, c2⟩
  obtain rfl := e2.symm
  refine Ev_goto rfl ?_
  exact hQ _ ⟨_, s2, Lag.rf _ _⟩ w2 o2 n2 (c1.k.tr c2)
theorem m_hop3 (d : Nat) {σ : St} {p : Nat × Nat} {x : Int32} (hρ : RF ρ) (hT : TxW U) (hL : LkO U p) (H : MSt σ U Bo B (.inr p)) (hne : ¬ wAt U (.inr p) = kw 3) {Q : Po} (hQ : ∀ σ', MSt σ' U Bo B (.inr p) → MX σ σ' → Ev l X (d + 10) 188 59 [.ref 326, .int x] [] 402 402 402 ρ σ' Q) :
    Ev l X (d + 10) 188 40 [.ref 326, .int x] [] 402 402 402 ρ σ Q := by
  have hne : ¬ mWd U (.inr p) = kw 3 := by rw [hL.2.2.1]; exact hne
  refine Ev_aload rfl rfl rfl ?_
  refine Ev_aload rfl rfl rfl ?_
  refine Ev_getR rfl (by first | rfl | assumption) (hρ _ _ _ rfl) ?_
  refine Ev_callV rfl rfl rfl rfl rfl (same_n 402) (m_takes _ hρ hT H.2.1 (k := 331) (w := kw 3) (by decide) H.1) ?_
  rintro v45 ρ45 σ45 ⟨rfl, e1, s1, c1⟩
  refine Ev_norm (congrArg bI (decide_eq_false hne) : _ = bI false) ?_
  obtain rfl := e1.symm
  rw [mTk_n hne, hL.2.1] at s1
  refine Ev_if_eq rfl (fun h48 => ?_) (fun h48 => absurd rfl h48)
  exact hQ _ (H.mx s1 c1) c1
theorem m_hit3 (d : Nat) {σ : St} {p : Nat × Nat} (hρ : RF ρ) (hT : TxW U) (hB : WfB B) (hfl : flen B ≤ p.1) (hL : LkO U p) (H : MSt σ U Bo B (.inr p)) (hw : wAt U (.inr p) = kw 3) {Q : Po} (hQ : ∀ σ', (∃ s, MTt σ' U s ∧ Lag U s (ndR U p.1 (tWd U (kw 3) (.inr p), B)).1) → Wds σ' → MOld σ' Bo → (isOk (ndR U p.1 (tWd U (kw 3) (.inr p), B)).1 = true → MNew σ' (ndR U p.1 (tWd U (kw 3) (.inr p), B)).2) → MRe σ σ' → Ev l X (d + 10) 188 198 [.ref 326, .int (nI p.1)] [] 402 402 402 ρ σ' Q) :
    Ev l X (d + 10) 188 40 [.ref 326, .int (nI p.1)] [] 402 402 402 ρ σ Q := by
  have hwm : mWd U (.inr p) = kw 3 := by rw [hL.2.2.1]; exact hw
  have hwI0 : Ivr U (tWd U (kw 3) (.inr p)) := (wf_tW (x := (.inr p, B)) (w := kw 3) (by decide) hw ⟨hL.1, fun _ => ⟨hB, hfl⟩⟩).1
  refine Ev_aload rfl rfl rfl ?_
  refine Ev_aload rfl rfl rfl ?_
  refine Ev_getR rfl (by first | rfl | assumption) (hρ _ _ _ rfl) ?_
  refine Ev_callV rfl rfl rfl rfl rfl (same_n 402) (m_takes _ hρ hT H.2.1 (k := 331) (w := kw 3) (by decide) H.1) ?_
  rintro v45 ρ45 σ45 ⟨rfl, e1, s1, c1⟩
  refine Ev_norm (congrArg bI (decide_eq_true hwm) : _ = bI true) ?_
  obtain rfl := e1.symm
  rw [hL.tw hw] at s1
  refine Ev_if_eq rfl (fun h48 => absurd h48 (show ¬ bI true = 0 by decide)) (fun h48 => ?_)
  refine Ev_aload rfl rfl rfl ?_
  refine Ev_iload rfl rfl ?_
  refine Ev_callV rfl rfl rfl rfl rfl (same_n 402) (m_needTold _ hρ hT hB hwI0 (H.mx s1 c1)) ?_
  rintro v53 ρ53 σ53 ⟨rfl, e2, s2, w2, o2, n2, c2⟩
  obtain rfl := e2.symm
  refine Ev_goto rfl ?_
  exact hQ _ ⟨_, s2, Lag.rf _ _⟩ w2 o2 n2 (c1.k.tr c2)
theorem m_hop5 (d : Nat) {σ : St} {p : Nat × Nat} {x : Int32} (hρ : RF ρ) (hT : TxW U) (hL : LkO U p) (H : MSt σ U Bo B (.inr p)) (hne : ¬ wAt U (.inr p) = kw 5) {Q : Po} (hQ : ∀ σ', MSt σ' U Bo B (.inr p) → MX σ σ' → Ev l X (d + 10) 188 78 [.ref 326, .int x] [] 402 402 402 ρ σ' Q) :
    Ev l X (d + 10) 188 59 [.ref 326, .int x] [] 402 402 402 ρ σ Q := by
  have hne : ¬ mWd U (.inr p) = kw 5 := by rw [hL.2.2.1]; exact hne
  refine Ev_aload rfl rfl rfl ?_
  refine Ev_aload rfl rfl rfl ?_
  refine Ev_getR rfl (by first | rfl | assumption) (hρ _ _ _ rfl) ?_
  refine Ev_callV rfl rfl rfl rfl rfl (same_n 402) (m_takes _ hρ hT H.2.1 (k := 333) (w := kw 5) (by decide) H.1) ?_
  rintro v64 ρ64 σ64 ⟨rfl, e1, s1, c1⟩
  refine Ev_norm (congrArg bI (decide_eq_false hne) : _ = bI false) ?_
  obtain rfl := e1.symm
  rw [mTk_n hne, hL.2.1] at s1
  refine Ev_if_eq rfl (fun h67 => ?_) (fun h67 => absurd rfl h67)
  exact hQ _ (H.mx s1 c1) c1
theorem m_hit5 (d : Nat) {σ : St} {p : Nat × Nat} (hρ : RF ρ) (hT : TxW U) (hB : WfB B) (hfl : flen B ≤ p.1) (hL : LkO U p) (H : MSt σ U Bo B (.inr p)) (hw : wAt U (.inr p) = kw 5) {Q : Po} (hQ : ∀ σ', (∃ s, MTt σ' U s ∧ Lag U s (btR U p.1 (tWd U (kw 5) (.inr p), B)).1) → Wds σ' → MOld σ' Bo → (isOk (btR U p.1 (tWd U (kw 5) (.inr p), B)).1 = true → MNew σ' (btR U p.1 (tWd U (kw 5) (.inr p), B)).2) → MRe σ σ' → Ev l X (d + 10) 188 198 [.ref 326, .int (nI p.1)] [] 402 402 402 ρ σ' Q) :
    Ev l X (d + 10) 188 59 [.ref 326, .int (nI p.1)] [] 402 402 402 ρ σ Q := by
  have hwm : mWd U (.inr p) = kw 5 := by rw [hL.2.2.1]; exact hw
  have hwI0 : Ivr U (tWd U (kw 5) (.inr p)) := (wf_tW (x := (.inr p, B)) (w := kw 5) (by decide) hw ⟨hL.1, fun _ => ⟨hB, hfl⟩⟩).1
  refine Ev_aload rfl rfl rfl ?_
  refine Ev_aload rfl rfl rfl ?_
  refine Ev_getR rfl (by first | rfl | assumption) (hρ _ _ _ rfl) ?_
  refine Ev_callV rfl rfl rfl rfl rfl (same_n 402) (m_takes _ hρ hT H.2.1 (k := 333) (w := kw 5) (by decide) H.1) ?_
  rintro v64 ρ64 σ64 ⟨rfl, e1, s1, c1⟩
  refine Ev_norm (congrArg bI (decide_eq_true hwm) : _ = bI true) ?_
  obtain rfl := e1.symm
  rw [hL.tw hw] at s1
  refine Ev_if_eq rfl (fun h67 => absurd h67 (show ¬ bI true = 0 by decide)) (fun h67 => ?_)
  refine Ev_aload rfl rfl rfl ?_
  refine Ev_iload rfl rfl ?_
  refine Ev_callV rfl rfl rfl rfl rfl (same_n 402) (m_batherTold _ hρ hT hB hwI0 (H.mx s1 c1)) ?_
  rintro v72 ρ72 σ72 ⟨rfl, e2, s2, w2, o2, n2, c2⟩
  obtain rfl := e2.symm
  refine Ev_goto rfl ?_
  exact hQ _ ⟨_, s2, Lag.rf _ _⟩ w2 o2 n2 (c1.k.tr c2)
theorem m_hop8 (d : Nat) {σ : St} {p : Nat × Nat} {x : Int32} (hρ : RF ρ) (hT : TxW U) (hL : LkO U p) (H : MSt σ U Bo B (.inr p)) (hne : ¬ wAt U (.inr p) = kw 8) {Q : Po} (hQ : ∀ σ', MSt σ' U Bo B (.inr p) → MX σ σ' → Ev l X (d + 10) 188 97 [.ref 326, .int x] [] 402 402 402 ρ σ' Q) :
    Ev l X (d + 10) 188 78 [.ref 326, .int x] [] 402 402 402 ρ σ Q := by
  have hne : ¬ mWd U (.inr p) = kw 8 := by rw [hL.2.2.1]; exact hne
  refine Ev_aload rfl rfl rfl ?_
  refine Ev_aload rfl rfl rfl ?_
  refine Ev_getR rfl (by first | rfl | assumption) (hρ _ _ _ rfl) ?_
  refine Ev_callV rfl rfl rfl rfl rfl (same_n 402) (m_takes _ hρ hT H.2.1 (k := 336) (w := kw 8) (by decide) H.1) ?_
  rintro v83 ρ83 σ83 ⟨rfl, e1, s1, c1⟩
  refine Ev_norm (congrArg bI (decide_eq_false hne) : _ = bI false) ?_
  obtain rfl := e1.symm
  rw [mTk_n hne, hL.2.1] at s1
  refine Ev_if_eq rfl (fun h86 => ?_) (fun h86 => absurd rfl h86)
  exact hQ _ (H.mx s1 c1) c1
theorem m_hit8 (d : Nat) {σ : St} {p : Nat × Nat} (hρ : RF ρ) (hT : TxW U) (hB : WfB B) (hfl : flen B ≤ p.1) (hL : LkO U p) (H : MSt σ U Bo B (.inr p)) (hw : wAt U (.inr p) = kw 8) {Q : Po} (hQ : ∀ σ', (∃ s, MTt σ' U s ∧ Lag U s (plR U p.1 (tWd U (kw 8) (.inr p), B)).1) → Wds σ' → MOld σ' Bo → (isOk (plR U p.1 (tWd U (kw 8) (.inr p), B)).1 = true → MNew σ' (plR U p.1 (tWd U (kw 8) (.inr p), B)).2) → MRe σ σ' → Ev l X (d + 10) 188 198 [.ref 326, .int (nI p.1)] [] 402 402 402 ρ σ' Q) :
    Ev l X (d + 10) 188 78 [.ref 326, .int (nI p.1)] [] 402 402 402 ρ σ Q := by
  have hwm : mWd U (.inr p) = kw 8 := by rw [hL.2.2.1]; exact hw
  have hwI0 : Ivr U (tWd U (kw 8) (.inr p)) := (wf_tW (x := (.inr p, B)) (w := kw 8) (by decide) hw ⟨hL.1, fun _ => ⟨hB, hfl⟩⟩).1
  refine Ev_aload rfl rfl rfl ?_
  refine Ev_aload rfl rfl rfl ?_
  refine Ev_getR rfl (by first | rfl | assumption) (hρ _ _ _ rfl) ?_
  refine Ev_callV rfl rfl rfl rfl rfl (same_n 402) (m_takes _ hρ hT H.2.1 (k := 336) (w := kw 8) (by decide) H.1) ?_
  rintro v83 ρ83 σ83 ⟨rfl, e1, s1, c1⟩
  refine Ev_norm (congrArg bI (decide_eq_true hwm) : _ = bI true) ?_
  obtain rfl := e1.symm
  rw [hL.tw hw] at s1
  refine Ev_if_eq rfl (fun h86 => absurd h86 (show ¬ bI true = 0 by decide)) (fun h86 => ?_)
  refine Ev_aload rfl rfl rfl ?_
  refine Ev_iload rfl rfl ?_
  refine Ev_callV rfl rfl rfl rfl rfl (same_n 402) (m_planTold _ hρ hT hB hwI0 (H.mx s1 c1)) ?_
  rintro v91 ρ91 σ91 ⟨rfl, e2, s2, w2, o2, n2, c2⟩
  obtain rfl := e2.symm
  refine Ev_goto rfl ?_
  exact hQ _ ⟨_, s2, Lag.rf _ _⟩ w2 o2 n2 (c1.k.tr c2)
theorem m_hop10 (d : Nat) {σ : St} {p : Nat × Nat} {x : Int32} (hρ : RF ρ) (hT : TxW U) (hL : LkO U p) (H : MSt σ U Bo B (.inr p)) (hne : ¬ wAt U (.inr p) = kw 10) {Q : Po} (hQ : ∀ σ', MSt σ' U Bo B (.inr p) → MX σ σ' → Ev l X (d + 10) 188 117 [.ref 326, .int x] [] 402 402 402 ρ σ' Q) :
    Ev l X (d + 10) 188 97 [.ref 326, .int x] [] 402 402 402 ρ σ Q := by
  have hne : ¬ mWd U (.inr p) = kw 10 := by rw [hL.2.2.1]; exact hne
  refine Ev_aload rfl rfl rfl ?_
  refine Ev_aload rfl rfl rfl ?_
  refine Ev_getR rfl (by first | rfl | assumption) (hρ _ _ _ rfl) ?_
  refine Ev_callV rfl rfl rfl rfl rfl (same_n 402) (m_takes _ hρ hT H.2.1 (k := 338) (w := kw 10) (by decide) H.1) ?_
  rintro v102 ρ102 σ102 ⟨rfl, e1, s1, c1⟩
  refine Ev_norm (congrArg bI (decide_eq_false hne) : _ = bI false) ?_
  obtain rfl := e1.symm
  rw [mTk_n hne, hL.2.1] at s1
  refine Ev_if_eq rfl (fun h105 => ?_) (fun h105 => absurd rfl h105)
  exact hQ _ (H.mx s1 c1) c1
theorem m_hit10 (d : Nat) {σ : St} {p : Nat × Nat} (hρ : RF ρ) (hT : TxW U) (hB : WfB B) (hfl : flen B ≤ p.1) (hL : LkO U p) (H : MSt σ U Bo B (.inr p)) (hw : wAt U (.inr p) = kw 10) {Q : Po} (hQ : ∀ σ', (∃ s, MTt σ' U s ∧ Lag U s (foR U 0 p.1 (tWd U (kw 10) (.inr p), B)).1) → Wds σ' → MOld σ' Bo → (isOk (foR U 0 p.1 (tWd U (kw 10) (.inr p), B)).1 = true → MNew σ' (foR U 0 p.1 (tWd U (kw 10) (.inr p), B)).2) → MRe σ σ' → Ev l X (d + 10) 188 198 [.ref 326, .int (nI p.1)] [] 402 402 402 ρ σ' Q) :
    Ev l X (d + 10) 188 97 [.ref 326, .int (nI p.1)] [] 402 402 402 ρ σ Q := by
  have hwm : mWd U (.inr p) = kw 10 := by rw [hL.2.2.1]; exact hw
  have hwI0 : Ivr U (tWd U (kw 10) (.inr p)) := (wf_tW (x := (.inr p, B)) (w := kw 10) (by decide) hw ⟨hL.1, fun _ => ⟨hB, hfl⟩⟩).1
  refine Ev_aload rfl rfl rfl ?_
  refine Ev_aload rfl rfl rfl ?_
  refine Ev_getR rfl (by first | rfl | assumption) (hρ _ _ _ rfl) ?_
  refine Ev_callV rfl rfl rfl rfl rfl (same_n 402) (m_takes _ hρ hT H.2.1 (k := 338) (w := kw 10) (by decide) H.1) ?_
  rintro v102 ρ102 σ102 ⟨rfl, e1, s1, c1⟩
  refine Ev_norm (congrArg bI (decide_eq_true hwm) : _ = bI true) ?_
  obtain rfl := e1.symm
  rw [hL.tw hw] at s1
  refine Ev_if_eq rfl (fun h105 => absurd h105 (show ¬ bI true = 0 by decide)) (fun h105 => ?_)
  have hw2 := wf_tW (x := (.inr p, B)) (by decide) hw ⟨hL.1, fun _ => ⟨hB, hfl⟩⟩
  obtain ⟨p2, hp2⟩ : ∃ p2, tWd U (kw 10) (.inr p) = .inr p2 := ⟨_, by rw [tWd_y hw, hL.2.2.2]; rfl⟩
  have hwI : Ivr U (tWd U (kw 10) (.inr p)) := hw2.1
  have hwf : flen B ≤ rpos (tWd U (kw 10) (.inr p)) := (hw2.2 (by show isOk (tWd U (kw 10) (.inr p)) = true; rw [hp2]; rfl)).2
  have H1 := H.mx s1 c1
  show Ev l X (d + 10) 188 108 [.ref 326, .int (nI p.1)] [] 402 402 402 ρ _ Q
  have hQ : ∀ σ', (∃ s, MTt σ' U s ∧ Lag U s (foR U 0 p.1 (tWd U (kw 10) (.inr p), B)).1) → Wds σ' → MOld σ' Bo → (isOk (foR U 0 p.1 (tWd U (kw 10) (.inr p), B)).1 = true → MNew σ' (foR U 0 p.1 (tWd U (kw 10) (.inr p), B)).2) → MRe σ σ' → Ev l X (d + 10) 188 198 [.ref 326, .int (nI p.1)] [] 402 402 402 ρ σ' Q := hQ
  rw [hp2] at hwI hwf H1 hQ
  refine Ev_aload rfl rfl rfl ?_
  refine Ev_const rfl ?_
  refine Ev_iload rfl rfl ?_
  refine Ev_callV rfl rfl rfl rfl rfl (same_n 402) (m_codesTold _ hρ hT hB (by decide) hwI hwf H1) ?_
  rintro v111 ρ111 σ111 ⟨rfl, e2, s2, w2, o2, n2, c2⟩
  obtain rfl := e2.symm
  refine Ev_goto rfl ?_
  exact hQ _ s2 w2 o2 n2 (c1.k.tr c2)
theorem m_hop28 (d : Nat) {σ : St} {p : Nat × Nat} {x : Int32} (hρ : RF ρ) (hT : TxW U) (hL : LkO U p) (H : MSt σ U Bo B (.inr p)) (hne : ¬ wAt U (.inr p) = kw 28) {Q : Po} (hQ : ∀ σ', MSt σ' U Bo B (.inr p) → MX σ σ' → Ev l X (d + 10) 188 137 [.ref 326, .int x] [] 402 402 402 ρ σ' Q) :
    Ev l X (d + 10) 188 117 [.ref 326, .int x] [] 402 402 402 ρ σ Q := by
  have hne : ¬ mWd U (.inr p) = kw 28 := by rw [hL.2.2.1]; exact hne
  refine Ev_aload rfl rfl rfl ?_
  refine Ev_aload rfl rfl rfl ?_
  refine Ev_getR rfl (by first | rfl | assumption) (hρ _ _ _ rfl) ?_
  refine Ev_callV rfl rfl rfl rfl rfl (same_n 402) (m_takes _ hρ hT H.2.1 (k := 339) (w := kw 28) (by decide) H.1) ?_
  rintro v122 ρ122 σ122 ⟨rfl, e1, s1, c1⟩
  refine Ev_norm (congrArg bI (decide_eq_false hne) : _ = bI false) ?_
  obtain rfl := e1.symm
  rw [mTk_n hne, hL.2.1] at s1
  refine Ev_if_eq rfl (fun h125 => ?_) (fun h125 => absurd rfl h125)
  exact hQ _ (H.mx s1 c1) c1
theorem m_hit28 (d : Nat) {σ : St} {p : Nat × Nat} (hρ : RF ρ) (hT : TxW U) (hB : WfB B) (hfl : flen B ≤ p.1) (hL : LkO U p) (H : MSt σ U Bo B (.inr p)) (hw : wAt U (.inr p) = kw 28) {Q : Po} (hQ : ∀ σ', (∃ s, MTt σ' U s ∧ Lag U s (foR U 1 p.1 (tWd U (kw 28) (.inr p), B)).1) → Wds σ' → MOld σ' Bo → (isOk (foR U 1 p.1 (tWd U (kw 28) (.inr p), B)).1 = true → MNew σ' (foR U 1 p.1 (tWd U (kw 28) (.inr p), B)).2) → MRe σ σ' → Ev l X (d + 10) 188 198 [.ref 326, .int (nI p.1)] [] 402 402 402 ρ σ' Q) :
    Ev l X (d + 10) 188 117 [.ref 326, .int (nI p.1)] [] 402 402 402 ρ σ Q := by
  have hwm : mWd U (.inr p) = kw 28 := by rw [hL.2.2.1]; exact hw
  have hwI0 : Ivr U (tWd U (kw 28) (.inr p)) := (wf_tW (x := (.inr p, B)) (w := kw 28) (by decide) hw ⟨hL.1, fun _ => ⟨hB, hfl⟩⟩).1
  refine Ev_aload rfl rfl rfl ?_
  refine Ev_aload rfl rfl rfl ?_
  refine Ev_getR rfl (by first | rfl | assumption) (hρ _ _ _ rfl) ?_
  refine Ev_callV rfl rfl rfl rfl rfl (same_n 402) (m_takes _ hρ hT H.2.1 (k := 339) (w := kw 28) (by decide) H.1) ?_
  rintro v122 ρ122 σ122 ⟨rfl, e1, s1, c1⟩
  refine Ev_norm (congrArg bI (decide_eq_true hwm) : _ = bI true) ?_
  obtain rfl := e1.symm
  rw [hL.tw hw] at s1
  refine Ev_if_eq rfl (fun h125 => absurd h125 (show ¬ bI true = 0 by decide)) (fun h125 => ?_)
  have hw2 := wf_tW (x := (.inr p, B)) (by decide) hw ⟨hL.1, fun _ => ⟨hB, hfl⟩⟩
  obtain ⟨p2, hp2⟩ : ∃ p2, tWd U (kw 28) (.inr p) = .inr p2 := ⟨_, by rw [tWd_y hw, hL.2.2.2]; rfl⟩
  have hwI : Ivr U (tWd U (kw 28) (.inr p)) := hw2.1
  have hwf : flen B ≤ rpos (tWd U (kw 28) (.inr p)) := (hw2.2 (by show isOk (tWd U (kw 28) (.inr p)) = true; rw [hp2]; rfl)).2
  have H1 := H.mx s1 c1
  show Ev l X (d + 10) 188 128 [.ref 326, .int (nI p.1)] [] 402 402 402 ρ _ Q
  have hQ : ∀ σ', (∃ s, MTt σ' U s ∧ Lag U s (foR U 1 p.1 (tWd U (kw 28) (.inr p), B)).1) → Wds σ' → MOld σ' Bo → (isOk (foR U 1 p.1 (tWd U (kw 28) (.inr p), B)).1 = true → MNew σ' (foR U 1 p.1 (tWd U (kw 28) (.inr p), B)).2) → MRe σ σ' → Ev l X (d + 10) 188 198 [.ref 326, .int (nI p.1)] [] 402 402 402 ρ σ' Q := hQ
  rw [hp2] at hwI hwf H1 hQ
  refine Ev_aload rfl rfl rfl ?_
  refine Ev_const rfl ?_
  refine Ev_iload rfl rfl ?_
  refine Ev_callV rfl rfl rfl rfl rfl (same_n 402) (m_codesTold _ hρ hT hB (by decide) hwI hwf H1) ?_
  rintro v131 ρ131 σ131 ⟨rfl, e2, s2, w2, o2, n2, c2⟩
  obtain rfl := e2.symm
  refine Ev_goto rfl ?_
  exact hQ _ s2 w2 o2 n2 (c1.k.tr c2)
theorem m_hop29 (d : Nat) {σ : St} {p : Nat × Nat} {x : Int32} (hρ : RF ρ) (hT : TxW U) (hL : LkO U p) (H : MSt σ U Bo B (.inr p)) (hne : ¬ wAt U (.inr p) = kw 29) {Q : Po} (hQ : ∀ σ', MSt σ' U Bo B (.inr p) → MX σ σ' → Ev l X (d + 10) 188 157 [.ref 326, .int x] [] 402 402 402 ρ σ' Q) :
    Ev l X (d + 10) 188 137 [.ref 326, .int x] [] 402 402 402 ρ σ Q := by
  have hne : ¬ mWd U (.inr p) = kw 29 := by rw [hL.2.2.1]; exact hne
  refine Ev_aload rfl rfl rfl ?_
  refine Ev_aload rfl rfl rfl ?_
  refine Ev_getR rfl (by first | rfl | assumption) (hρ _ _ _ rfl) ?_
  refine Ev_callV rfl rfl rfl rfl rfl (same_n 402) (m_takes _ hρ hT H.2.1 (k := 340) (w := kw 29) (by decide) H.1) ?_
  rintro v142 ρ142 σ142 ⟨rfl, e1, s1, c1⟩
  refine Ev_norm (congrArg bI (decide_eq_false hne) : _ = bI false) ?_
  obtain rfl := e1.symm
  rw [mTk_n hne, hL.2.1] at s1
  refine Ev_if_eq rfl (fun h145 => ?_) (fun h145 => absurd rfl h145)
  exact hQ _ (H.mx s1 c1) c1
theorem m_hit29 (d : Nat) {σ : St} {p : Nat × Nat} (hρ : RF ρ) (hT : TxW U) (hB : WfB B) (hfl : flen B ≤ p.1) (hL : LkO U p) (H : MSt σ U Bo B (.inr p)) (hw : wAt U (.inr p) = kw 29) {Q : Po} (hQ : ∀ σ', (∃ s, MTt σ' U s ∧ Lag U s (foR U 2 p.1 (tWd U (kw 29) (.inr p), B)).1) → Wds σ' → MOld σ' Bo → (isOk (foR U 2 p.1 (tWd U (kw 29) (.inr p), B)).1 = true → MNew σ' (foR U 2 p.1 (tWd U (kw 29) (.inr p), B)).2) → MRe σ σ' → Ev l X (d + 10) 188 198 [.ref 326, .int (nI p.1)] [] 402 402 402 ρ σ' Q) :
    Ev l X (d + 10) 188 137 [.ref 326, .int (nI p.1)] [] 402 402 402 ρ σ Q := by
  have hwm : mWd U (.inr p) = kw 29 := by rw [hL.2.2.1]; exact hw
  have hwI0 : Ivr U (tWd U (kw 29) (.inr p)) := (wf_tW (x := (.inr p, B)) (w := kw 29) (by decide) hw ⟨hL.1, fun _ => ⟨hB, hfl⟩⟩).1
  refine Ev_aload rfl rfl rfl ?_
  refine Ev_aload rfl rfl rfl ?_
  refine Ev_getR rfl (by first | rfl | assumption) (hρ _ _ _ rfl) ?_
  refine Ev_callV rfl rfl rfl rfl rfl (same_n 402) (m_takes _ hρ hT H.2.1 (k := 340) (w := kw 29) (by decide) H.1) ?_
  rintro v142 ρ142 σ142 ⟨rfl, e1, s1, c1⟩
  refine Ev_norm (congrArg bI (decide_eq_true hwm) : _ = bI true) ?_
  obtain rfl := e1.symm
  rw [hL.tw hw] at s1
  refine Ev_if_eq rfl (fun h145 => absurd h145 (show ¬ bI true = 0 by decide)) (fun h145 => ?_)
  have hw2 := wf_tW (x := (.inr p, B)) (by decide) hw ⟨hL.1, fun _ => ⟨hB, hfl⟩⟩
  obtain ⟨p2, hp2⟩ : ∃ p2, tWd U (kw 29) (.inr p) = .inr p2 := ⟨_, by rw [tWd_y hw, hL.2.2.2]; rfl⟩
  have hwI : Ivr U (tWd U (kw 29) (.inr p)) := hw2.1
  have hwf : flen B ≤ rpos (tWd U (kw 29) (.inr p)) := (hw2.2 (by show isOk (tWd U (kw 29) (.inr p)) = true; rw [hp2]; rfl)).2
  have H1 := H.mx s1 c1
  show Ev l X (d + 10) 188 148 [.ref 326, .int (nI p.1)] [] 402 402 402 ρ _ Q
  have hQ : ∀ σ', (∃ s, MTt σ' U s ∧ Lag U s (foR U 2 p.1 (tWd U (kw 29) (.inr p), B)).1) → Wds σ' → MOld σ' Bo → (isOk (foR U 2 p.1 (tWd U (kw 29) (.inr p), B)).1 = true → MNew σ' (foR U 2 p.1 (tWd U (kw 29) (.inr p), B)).2) → MRe σ σ' → Ev l X (d + 10) 188 198 [.ref 326, .int (nI p.1)] [] 402 402 402 ρ σ' Q := hQ
  rw [hp2] at hwI hwf H1 hQ
  refine Ev_aload rfl rfl rfl ?_
  refine Ev_const rfl ?_
  refine Ev_iload rfl rfl ?_
  refine Ev_callV rfl rfl rfl rfl rfl (same_n 402) (m_codesTold _ hρ hT hB (by decide) hwI hwf H1) ?_
  rintro v151 ρ151 σ151 ⟨rfl, e2, s2, w2, o2, n2, c2⟩
  obtain rfl := e2.symm
  refine Ev_goto rfl ?_
  exact hQ _ s2 w2 o2 n2 (c1.k.tr c2)
theorem m_hop30 (d : Nat) {σ : St} {p : Nat × Nat} {x : Int32} (hρ : RF ρ) (hT : TxW U) (hL : LkO U p) (H : MSt σ U Bo B (.inr p)) (hne : ¬ wAt U (.inr p) = kw 30) {Q : Po} (hQ : ∀ σ', MSt σ' U Bo B (.inr p) → MX σ σ' → Ev l X (d + 10) 188 177 [.ref 326, .int x] [] 402 402 402 ρ σ' Q) :
    Ev l X (d + 10) 188 157 [.ref 326, .int x] [] 402 402 402 ρ σ Q := by
  have hne : ¬ mWd U (.inr p) = kw 30 := by rw [hL.2.2.1]; exact hne
  refine Ev_aload rfl rfl rfl ?_
  refine Ev_aload rfl rfl rfl ?_
  refine Ev_getR rfl (by first | rfl | assumption) (hρ _ _ _ rfl) ?_
  refine Ev_callV rfl rfl rfl rfl rfl (same_n 402) (m_takes _ hρ hT H.2.1 (k := 341) (w := kw 30) (by decide) H.1) ?_
  rintro v162 ρ162 σ162 ⟨rfl, e1, s1, c1⟩
  refine Ev_norm (congrArg bI (decide_eq_false hne) : _ = bI false) ?_
  obtain rfl := e1.symm
  rw [mTk_n hne, hL.2.1] at s1
  refine Ev_if_eq rfl (fun h165 => ?_) (fun h165 => absurd rfl h165)
  exact hQ _ (H.mx s1 c1) c1
theorem m_hit30 (d : Nat) {σ : St} {p : Nat × Nat} (hρ : RF ρ) (hT : TxW U) (hB : WfB B) (hfl : flen B ≤ p.1) (hL : LkO U p) (H : MSt σ U Bo B (.inr p)) (hw : wAt U (.inr p) = kw 30) {Q : Po} (hQ : ∀ σ', (∃ s, MTt σ' U s ∧ Lag U s (foR U 3 p.1 (tWd U (kw 30) (.inr p), B)).1) → Wds σ' → MOld σ' Bo → (isOk (foR U 3 p.1 (tWd U (kw 30) (.inr p), B)).1 = true → MNew σ' (foR U 3 p.1 (tWd U (kw 30) (.inr p), B)).2) → MRe σ σ' → Ev l X (d + 10) 188 198 [.ref 326, .int (nI p.1)] [] 402 402 402 ρ σ' Q) :
    Ev l X (d + 10) 188 157 [.ref 326, .int (nI p.1)] [] 402 402 402 ρ σ Q := by
  have hwm : mWd U (.inr p) = kw 30 := by rw [hL.2.2.1]; exact hw
  have hwI0 : Ivr U (tWd U (kw 30) (.inr p)) := (wf_tW (x := (.inr p, B)) (w := kw 30) (by decide) hw ⟨hL.1, fun _ => ⟨hB, hfl⟩⟩).1
  refine Ev_aload rfl rfl rfl ?_
  refine Ev_aload rfl rfl rfl ?_
  refine Ev_getR rfl (by first | rfl | assumption) (hρ _ _ _ rfl) ?_
  refine Ev_callV rfl rfl rfl rfl rfl (same_n 402) (m_takes _ hρ hT H.2.1 (k := 341) (w := kw 30) (by decide) H.1) ?_
  rintro v162 ρ162 σ162 ⟨rfl, e1, s1, c1⟩
  refine Ev_norm (congrArg bI (decide_eq_true hwm) : _ = bI true) ?_
  obtain rfl := e1.symm
  rw [hL.tw hw] at s1
  refine Ev_if_eq rfl (fun h165 => absurd h165 (show ¬ bI true = 0 by decide)) (fun h165 => ?_)
  have hw2 := wf_tW (x := (.inr p, B)) (by decide) hw ⟨hL.1, fun _ => ⟨hB, hfl⟩⟩
  obtain ⟨p2, hp2⟩ : ∃ p2, tWd U (kw 30) (.inr p) = .inr p2 := ⟨_, by rw [tWd_y hw, hL.2.2.2]; rfl⟩
  have hwI : Ivr U (tWd U (kw 30) (.inr p)) := hw2.1
  have hwf : flen B ≤ rpos (tWd U (kw 30) (.inr p)) := (hw2.2 (by show isOk (tWd U (kw 30) (.inr p)) = true; rw [hp2]; rfl)).2
  have H1 := H.mx s1 c1
  show Ev l X (d + 10) 188 168 [.ref 326, .int (nI p.1)] [] 402 402 402 ρ _ Q
  have hQ : ∀ σ', (∃ s, MTt σ' U s ∧ Lag U s (foR U 3 p.1 (tWd U (kw 30) (.inr p), B)).1) → Wds σ' → MOld σ' Bo → (isOk (foR U 3 p.1 (tWd U (kw 30) (.inr p), B)).1 = true → MNew σ' (foR U 3 p.1 (tWd U (kw 30) (.inr p), B)).2) → MRe σ σ' → Ev l X (d + 10) 188 198 [.ref 326, .int (nI p.1)] [] 402 402 402 ρ σ' Q := hQ
  rw [hp2] at hwI hwf H1 hQ
  refine Ev_aload rfl rfl rfl ?_
  refine Ev_const rfl ?_
  refine Ev_iload rfl rfl ?_
  refine Ev_callV rfl rfl rfl rfl rfl (same_n 402) (m_codesTold _ hρ hT hB (by decide) hwI hwf H1) ?_
  rintro v171 ρ171 σ171 ⟨rfl, e2, s2, w2, o2, n2, c2⟩
  obtain rfl := e2.symm
  refine Ev_goto rfl ?_
  exact hQ _ s2 w2 o2 n2 (c1.k.tr c2)
theorem m_hitS (d : Nat) {σ : St} {p : Nat × Nat} (hρ : RF ρ) (hT : TxW U) (hB : WfB B) (hL : LkO U p) (H : MSt σ U Bo B (.inr p)) {Q : Po} (hQ : ∀ σ', MTt σ' U (sqR U (.inr p, B)).1 → Wds σ' → MOld σ' Bo → (isOk (sqR U (.inr p, B)).1 = true → MNew σ' (sqR U (.inr p, B)).2) → MRe σ σ' → Ev l X (d + 10) 188 198 [.ref 326, .int (nI p.1)] [] 402 402 402 ρ σ' Q) :
    Ev l X (d + 10) 188 177 [.ref 326, .int (nI p.1)] [] 402 402 402 ρ σ Q := by
  have hI2 : Ivr U (aWd U (kw 31) (.inr p)) := Ivr_aW hL.1 (by decide)
  have hQ : ∀ σ', MTt σ' U (aNu U 100 (aWd U (kw 31) (.inr p))) → Wds σ' → MOld σ' Bo → (isOk (aNu U 100 (aWd U (kw 31) (.inr p))) = true → MNew σ' (adQ B (vNu U 100 (aWd U (kw 31) (.inr p))))) → MRe σ σ' → Ev l X (d + 10) 188 198 [.ref 326, .int (nI p.1)] [] 402 402 402 ρ σ' Q := hQ
  refine Ev_aload rfl rfl rfl ?_
  refine Ev_aload rfl rfl rfl ?_
  refine Ev_getR rfl (by first | rfl | assumption) (hρ _ _ _ rfl) ?_
  refine Ev_callV rfl rfl rfl rfl rfl (same_n 402) (m_asks _ hρ hT H.2.1 (k := 342) (w := kw 31) (by decide) H.1) ?_
  rintro v182 ρ182 σ182 ⟨rfl, e1, s1, c1⟩
  obtain rfl := e1.symm
  rw [mAk_a hL.1 (by decide)] at s1
  refine Ev_aload rfl rfl rfl ?_
  refine Ev_getR rfl (by first | rfl | assumption) (hρ _ _ _ rfl) ?_
  refine Ev_const rfl ?_
  refine Ev_aload rfl rfl rfl ?_
  refine Ev_const rfl ?_
  refine Ev_const rfl ?_
  refine Ev_callV rfl rfl rfl rfl rfl (same_n 402) (m_number _ (most := 100) hρ hT (by decide) s1) ?_
  rintro v194 ρ194 σ194 ⟨⟨y, rfl, hy⟩, e2, s2, c2⟩
  obtain rfl := e2.symm
  rw [mNu_a hI2] at s2 hy
  refine Ev_iast rfl (by first | rfl | assumption) (vp_in_nI (n := 4) (by decide) (by decide)) ?_
  have H2 := (H.mx s1 c1).mx s2 c2
  have hcell : ∀ q, q ≠ 356 → (sI σ194 356 (upd (σ194.1 356) (4 : Int32).toNatClampNeg y)).1 q = σ194.1 q := fun q hq => sR_1 _ _ hq
  refine hQ _ (H2.1.kc (hcell _ (by decide)) (fun j _ => by rw [hcell _ (by decide)])) (H2.2.1.k (MRe.cell _ (by decide) rfl)) ?_ (fun z => ?_) ((c1.k.tr c2.k).tr (MRe.cell _ (by decide) rfl))
  · refine H2.2.2.1.up (fun j hj => ?_) (fun j hj => ⟨?_, ?_⟩) (fun j hj => ?_) (fun j hj => ⟨?_, ?_⟩) (fun j hj => ?_) (fun j hj => rfl)
    · rw [sR_0, pk_un (by have : (4 : Int32).toNatClampNeg = 4 := rfl; omega)]
    · rw [hcell _ (by decide)]
    · rw [hcell _ (by decide)]
    · rw [hcell _ (by decide)]
    · rw [hcell _ (by decide)]
    · rw [hcell _ (by decide)]
    · rw [hcell _ (by decide)]
  · have hy := hy z
    rw [vU_m hI2 z] at hy
    subst hy
    obtain ⟨g1, g2, g3, g4, g5⟩ := H2.2.2.2
    refine ⟨fun q hq => ?_, g2, ?_, ?_, by rw [hcell _ (by decide)]; exact g5⟩
    · rw [sR_0]
      show upd (σ194.1 356) 4 (nI (vNu U 100 (aWd U (kw 31) (.inr p)))) q = nI (upF B.1 4 (vNu U 100 (aWd U (kw 31) (.inr p))) q)
      by_cases hz : q = 4
      · subst hz; rw [pk_us, upF_s]
      · rw [pk_un hz, upF_n hz]; exact g1 q hq
    · unfold MNt; rw [hcell _ (by decide), hcell _ (by decide), hcell _ (by decide), hcell _ (by decide)]; exact g3
    · unfold MNf; rw [hcell _ (by decide), hcell _ (by decide), hcell _ (by decide)]; exact g4
/-- the same but for what a beach read touches -/
def MBe (σ σ' : St) : Prop := (∀ q, q ≠ 326 → cRe q = false → σ'.1 q = σ.1 q) ∧ (∀ q, q ≠ 357 → q ≠ 400 → σ'.2 q = σ.2 q) ∧ ∀ j, fRe j = false → j ≠ 49 → σ'.1 326 j = σ.1 326 j
theorem MBe.tr {σ σ' σ'' : St} (h : MBe σ σ') (h2 : MBe σ' σ'') : MBe σ σ'' := ⟨fun q hq hc => (h2.1 q hq hc).trans (h.1 q hq hc), fun q hq hq2 => (h2.2.1 q hq hq2).trans (h.2.1 q hq hq2), fun j hj hj2 => (h2.2.2 j hj hj2).trans (h.2.2 j hj hj2)⟩
theorem MRe.be {σ σ' : St} (h : MRe σ σ') : MBe σ σ' := ⟨h.1, h.2.1, fun j hj _ => h.2.2 j hj⟩
theorem MBe.rf (σ : St) : MBe σ σ := (MRe.rf σ).be
theorem MBe.st {σ : St} (x : Int32) : MBe σ (sI σ 326 (upd (σ.1 326) 49 x)) := ⟨fun q hq _ => sR_1 _ _ hq, fun _ _ _ => rfl, fun j _ hj => by rw [sR_0, pk_un hj]⟩
theorem m_statementTold (d : Nat) {σ : St} {p : Nat × Nat} {c : Nat} (hρ : RF ρ) (hT : TxW U) (hB : WfB B) (hfl : flen B ≤ p.1) (hL : LkO U p) (hc : c ≤ 60) (H : MSt σ U Bo B (.inr p)) (hst : σ.1 326 49 = nI c) :
    T l X (d + 10) 188 [.ref 326] 402 402 ρ σ (fun v' ρ' σ' => v' = none ∧ ρ' = ρ ∧ MTt σ' U (if c = 60 then ((.inl (5, p.1) : Rdg), B) else stS U (.inr p, B)).1 ∧ Wds σ' ∧ MOld σ' Bo ∧ (isOk (if c = 60 then ((.inl (5, p.1) : Rdg), B) else stS U (.inr p, B)).1 = true → MNew σ' (if c = 60 then ((.inl (5, p.1) : Rdg), B) else stS U (.inr p, B)).2 ∧ σ'.1 326 49 = nI (c + 1)) ∧ MBe σ σ') := by
  have h16 := hT.1
  have hp : p.1 ≤ U.1 := hL.1.1
  have hat : σ.1 326 2 = nI p.1 := H.1.at0
  by_cases h60 : c = 60
  · rw [if_pos h60]
    refine T_of rfl ?_
    refine Ev_aload rfl rfl rfl ?_
    refine Ev_getI rfl (by first | rfl | assumption) ?_
    refine Ev_norm hat ?_
    refine Ev_istore rfl ?_
    refine Ev_aload rfl rfl rfl ?_
    refine Ev_getI rfl (by first | rfl | assumption) ?_
    refine Ev_norm hst ?_
    refine Ev_const rfl ?_
    refine Ev_icmp_ne rfl (fun h11 => absurd (show nI c = 60 by rw [h60]; rfl) h11) (fun h11 => ?_)
    refine Ev_aload rfl rfl rfl ?_
    refine Ev_const rfl ?_
    refine Ev_iload rfl rfl ?_
    refine Ev_callV rfl rfl rfl rfl rfl (same_n 402) (m_fail _ (w := 5) (k := p.1) H.1 (by decide) (fun _ _ => rfl)) ?_
    rintro v17 ρ17 σ17 ⟨rfl, e17, s17, c17⟩
    obtain rfl := e17.symm
    exact Ev_return rfl rfl rfl ⟨rfl, rfl, s17, H.2.1.mx c17, (H.mx s17 c17).2.2.1, (fun z => by cases z), c17.k.be⟩
  · rw [if_neg h60]
    have fin : ∀ (σ2 : St) (y : Rdg × Bh), (∃ s, MTt σ2 U s ∧ Lag U s y.1) → Ivr U y.1 → Wds σ2 → MOld σ2 Bo → (isOk y.1 = true → MNew σ2 y.2) → MRe σ σ2 → Ev l X (d + 10) 188 198 [.ref 326, .int (nI p.1)] [] 402 402 402 ρ σ2 (fun v' ρ' σ' => v' = none ∧ ρ' = ρ ∧ MTt σ' U (aSg U 59 y.1) ∧ Wds σ' ∧ MOld σ' Bo ∧ (isOk (aSg U 59 y.1) = true → MNew σ' y.2 ∧ σ'.1 326 49 = nI (c + 1)) ∧ MBe σ σ') := by
      rintro σ2 y ⟨s, s2, hlag⟩ hIy w2 o2 n2 c2
      refine Ev_aload rfl rfl rfl ?_
      refine Ev_const rfl ?_
      refine Ev_callV rfl rfl rfl rfl rfl (same_n 402) (m_asksSign _ (c := 59) hρ hT (by decide) s2) ?_
      rintro v201 ρ201 σ201 ⟨rfl, e3, s3, c3⟩
      obtain rfl := e3.symm
      rw [mAs_lag hlag hIy (by decide)] at s3
      refine Ev_aload rfl rfl rfl ?_
      refine Ev_dup rfl (fun _ q => nomatch q) ?_
      refine Ev_getI rfl (by first | rfl | assumption) ?_
      refine Ev_norm (by rw [c3.2.2 _ rfl, c2.2.2 _ rfl]; exact hst : _ = nI c) ?_
      refine Ev_const rfl ?_
      refine Ev_iadd rfl ?_
      refine Ev_norm (nI_1 c) ?_
      refine Ev_putI rfl (by first | rfl | assumption) ⟨rfl, rfl⟩ rfl ?_
      exact Ev_return rfl rfl rfl (by
      have hcell : ∀ q, q ≠ 326 → (sI σ201 326 (upd (σ201.1 326) 49 (nI (c + 1)))).1 q = σ2.1 q := fun q hq => by rw [sR_1 _ _ hq, c3.1 q hq rfl]
      refine ⟨rfl, rfl, s3.kc (sR_1 _ _ (by decide)) (fun j hj => ?_), (w2.mx c3).eq (fun p hp => sR_1 _ _ (by have := (wdS_ok p hp).1; omega)), ?_, fun z => ⟨?_, by rw [sR_0, pk_us]⟩, (c2.be.tr c3.k.be).tr (MBe.st _)⟩
      · rw [sR_0, pk_un]
        simp only [List.mem_cons, List.not_mem_nil, or_false] at hj
        omega
      · exact o2.eq (fun q hq => hcell q (by simp only [List.mem_cons, List.not_mem_nil, or_false] at hq; omega)) (c3.2.1 _ (by decide))
      · exact (n2 (aS_ok z).1).eq (fun q hq => hcell q (by simp only [List.mem_cons, List.not_mem_nil, or_false] at hq; omega)) (c3.2.1 _ (by decide)) (by rw [sR_0, pk_un (by decide), c3.2.2 _ rfl]))
    have hwf : WfZ U (stm U (.inr p, B)) := wf_stm hT ⟨hL.1, fun _ => ⟨hB, hfl⟩⟩
    have go : ∀ (σ2 : St), MSt σ2 U Bo B (.inr p) → MRe σ σ2 → Ev l X (d + 10) 188 21 [.ref 326, .int (nI p.1)] [] 402 402 402 ρ σ2 (fun v' ρ' σ' => v' = none ∧ ρ' = ρ ∧ MTt σ' U (stS U (.inr p, B)).1 ∧ Wds σ' ∧ MOld σ' Bo ∧ (isOk (stS U (.inr p, B)).1 = true → MNew σ' (stS U (.inr p, B)).2 ∧ σ'.1 326 49 = nI (c + 1)) ∧ MBe σ σ') := by
      intro σ0 H0 m0
      have hf : ∀ (y : Rdg × Bh) (σ3 : St), stm U (.inr p, B) = y → (∃ s, MTt σ3 U s ∧ Lag U s y.1) → Wds σ3 → MOld σ3 Bo → (isOk y.1 = true → MNew σ3 y.2) → MRe σ σ3 → Ev l X (d + 10) 188 198 [.ref 326, .int (nI p.1)] [] 402 402 402 ρ σ3 (fun v' ρ' σ' => v' = none ∧ ρ' = ρ ∧ MTt σ' U (stS U (.inr p, B)).1 ∧ Wds σ' ∧ MOld σ' Bo ∧ (isOk (stS U (.inr p, B)).1 = true → MNew σ' (stS U (.inr p, B)).2 ∧ σ'.1 326 49 = nI (c + 1)) ∧ MBe σ σ') := by
        intro y σ3 hy hs w3 o3 n3 c3
        have := fin σ3 y hs (by rw [← hy]; exact hwf.1) w3 o3 n3 c3
        unfold stS
        rw [hy]
        exact this
      have hstm : stm U (.inr p, B) = if wAt U (.inr p) = kw 0 then idR U p.1 (tWd U (kw 0) (.inr p), B)
        else if wAt U (.inr p) = kw 3 then ndR U p.1 (tWd U (kw 3) (.inr p), B)
        else if wAt U (.inr p) = kw 5 then btR U p.1 (tWd U (kw 5) (.inr p), B)
        else if wAt U (.inr p) = kw 8 then plR U p.1 (tWd U (kw 8) (.inr p), B)
        else if wAt U (.inr p) = kw 10 then foR U 0 p.1 (tWd U (kw 10) (.inr p), B)
        else if wAt U (.inr p) = kw 28 then foR U 1 p.1 (tWd U (kw 28) (.inr p), B)
        else if wAt U (.inr p) = kw 29 then foR U 2 p.1 (tWd U (kw 29) (.inr p), B)
        else if wAt U (.inr p) = kw 30 then foR U 3 p.1 (tWd U (kw 30) (.inr p), B)
        else sqR U (.inr p, B) := rfl
      by_cases h0 : wAt U (.inr p) = kw 0
      · rw [if_pos h0] at hstm
        exact m_hit0 d hρ hT hB hfl hL H0 h0 (fun σ3 s3 w3 o3 n3 c3 => hf _ σ3 hstm s3 w3 o3 n3 (m0.tr c3))
      · rw [if_neg h0] at hstm
        refine m_hop0 d hρ hT hL H0 h0 (fun σ1 H1 c1 => ?_)
        have m1 := m0.tr c1.k
        by_cases h3 : wAt U (.inr p) = kw 3
        · rw [if_pos h3] at hstm
          exact m_hit3 d hρ hT hB hfl hL H1 h3 (fun σ3 s3 w3 o3 n3 c3 => hf _ σ3 hstm s3 w3 o3 n3 (m1.tr c3))
        · rw [if_neg h3] at hstm
          refine m_hop3 d hρ hT hL H1 h3 (fun σ2 H2 c2 => ?_)
          have m2 := m1.tr c2.k
          by_cases h5 : wAt U (.inr p) = kw 5
          · rw [if_pos h5] at hstm
            exact m_hit5 d hρ hT hB hfl hL H2 h5 (fun σ3 s3 w3 o3 n3 c3 => hf _ σ3 hstm s3 w3 o3 n3 (m2.tr c3))
          · rw [if_neg h5] at hstm
            refine m_hop5 d hρ hT hL H2 h5 (fun σ3 H3 c3 => ?_)
            have m3 := m2.tr c3.k
            by_cases h8 : wAt U (.inr p) = kw 8
            · rw [if_pos h8] at hstm
              exact m_hit8 d hρ hT hB hfl hL H3 h8 (fun σ3 s3 w3 o3 n3 c3 => hf _ σ3 hstm s3 w3 o3 n3 (m3.tr c3))
            · rw [if_neg h8] at hstm
              refine m_hop8 d hρ hT hL H3 h8 (fun σ4 H4 c4 => ?_)
              have m4 := m3.tr c4.k
              by_cases h10 : wAt U (.inr p) = kw 10
              · rw [if_pos h10] at hstm
                exact m_hit10 d hρ hT hB hfl hL H4 h10 (fun σ3 s3 w3 o3 n3 c3 => hf _ σ3 hstm s3 w3 o3 n3 (m4.tr c3))
              · rw [if_neg h10] at hstm
                refine m_hop10 d hρ hT hL H4 h10 (fun σ5 H5 c5 => ?_)
                have m5 := m4.tr c5.k
                by_cases h28 : wAt U (.inr p) = kw 28
                · rw [if_pos h28] at hstm
                  exact m_hit28 d hρ hT hB hfl hL H5 h28 (fun σ3 s3 w3 o3 n3 c3 => hf _ σ3 hstm s3 w3 o3 n3 (m5.tr c3))
                · rw [if_neg h28] at hstm
                  refine m_hop28 d hρ hT hL H5 h28 (fun σ6 H6 c6 => ?_)
                  have m6 := m5.tr c6.k
                  by_cases h29 : wAt U (.inr p) = kw 29
                  · rw [if_pos h29] at hstm
                    exact m_hit29 d hρ hT hB hfl hL H6 h29 (fun σ3 s3 w3 o3 n3 c3 => hf _ σ3 hstm s3 w3 o3 n3 (m6.tr c3))
                  · rw [if_neg h29] at hstm
                    refine m_hop29 d hρ hT hL H6 h29 (fun σ7 H7 c7 => ?_)
                    have m7 := m6.tr c7.k
                    by_cases h30 : wAt U (.inr p) = kw 30
                    · rw [if_pos h30] at hstm
                      exact m_hit30 d hρ hT hB hfl hL H7 h30 (fun σ3 s3 w3 o3 n3 c3 => hf _ σ3 hstm s3 w3 o3 n3 (m7.tr c3))
                    · rw [if_neg h30] at hstm
                      refine m_hop30 d hρ hT hL H7 h30 (fun σ8 H8 c8 => ?_)
                      have m8 := m7.tr c8.k
                      exact m_hitS d hρ hT hB hL H8 (fun σ3 s3 w3 o3 n3 c3 => hf _ σ3 hstm ⟨_, s3, Lag.rf _ _⟩ w3 o3 n3 (m8.tr c3))
    refine T_of rfl ?_
    refine Ev_aload rfl rfl rfl ?_
    refine Ev_getI rfl (by first | rfl | assumption) ?_
    refine Ev_norm hat ?_
    refine Ev_istore rfl ?_
    refine Ev_aload rfl rfl rfl ?_
    refine Ev_getI rfl (by first | rfl | assumption) ?_
    refine Ev_norm hst ?_
    refine Ev_const rfl ?_
    refine Ev_icmp_ne rfl (fun h11 => ?_) (fun h11 => absurd (fun z => h60 ((nI_eq (b := 60) (by omega) (by decide)).mp z)) h11)
    exact go σ H (MRe.rf σ)
end S88zy
