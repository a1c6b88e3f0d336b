/-! A formula read by the reference: what goes on behind a fact. -/
/-- a state of the reading of a test -/
def MZs (P : Nat) (σ : St) (U : Tx) (z : Ys) : Prop := MTt σ U z.1 ∧ (isOk z.1 = true → MPq σ z.2.1 z.2.2.1 z.2.2.2 ∧ okT z.2.2.1 ∧ z.2.1.length + z.2.2.1.length + P ≤ rpos z.1)
theorem okT_dr (p : Nat → Bool) : ∀ w, okT w → okT (drW p w) := by
  intro w
  induction w with
  | nil => exact fun h => h
  | cons e w ih =>
    intro h
    cases hp : p e with
    | true => rw [(tk_y hp).2]; exact ih (okT_c h).2
    | false => rw [(tk_n hp).2]; exact h
theorem okT_p {e : Nat} {w : List Nat} (he : e ∈ [33, 43, 44, 1025]) (h : okT w) : okT (e :: w) := fun x hx => by
  rcases List.mem_cons.mp hx with z | z
  · rw [z]; exact he
  · exact h x z
theorem cnt_dt (p : Nat → Bool) (w : List Nat) : cntO (drW p w) ≤ cntO w := by
  have := cnt_dr p [] w
  rw [List.append_nil, List.append_nil] at this
  exact this
theorem dr_sq : ∀ w, 1025 ∈ w → drW nSq w = 1025 :: (drW nSq w).tail := by
  intro w
  induction w with
  | nil => intro h; cases h
  | cons e w ih =>
    intro h
    by_cases hq : e = 1025
    · subst hq; rw [(tk_n (show nSq 1025 = false from rfl)).2]; rfl
    · have hn : nSq e = true := by unfold nSq; rw [nbeq hq]; rfl
      rw [(tk_y hn).2]
      refine ih ?_
      rcases List.mem_cons.mp h with z | z
      · exact absurd z.symm hq
      · exact z
theorem runZ_r {U : Tx} {k f c : Nat} {z r : Ys} (h : runZ U k f (c, z) = some r) (ho : isOk z.1 = false ∨ c = 2) : z = r := by
  cases f with
  | zero => cases h
  | succ g =>
    have h : (if isOk z.1 = false ∨ c = 2 then some z else _) = some r := h
    rw [if_pos ho] at h
    exact Option.some.inj h
theorem runZ_u {U : Tx} {k f : Nat} {z r : Ys} (h : runZ U k f (1, z) = some r) (ho : isOk z.1 = true) : ∃ g, f = g + 1 ∧ runZ U k g (stU U z) = some r := by
  cases f with
  | zero => cases h
  | succ g =>
    have h : (if isOk z.1 = false ∨ (1 : Nat) = 2 then some z else if (1 : Nat) = 0 then (stZ U k g z).bind (runZ U k g) else runZ U k g (stU U z)) = some r := h
    rw [if_neg (fun q => q.elim (fun q => by rw [ho] at q; cases q) (by decide)), if_neg (by decide)] at h
    exact ⟨g, rfl, h⟩
theorem runZ_t {U : Tx} {k f : Nat} {z r : Ys} (h : runZ U k f (0, z) = some r) (ho : isOk z.1 = true) : ∃ g c, f = g + 1 ∧ stZ U k g z = some c ∧ runZ U k g c = some r := by
  cases f with
  | zero => cases h
  | succ g =>
    have h : (if isOk z.1 = false ∨ (0 : Nat) = 2 then some z else if (0 : Nat) = 0 then (stZ U k g z).bind (runZ U k g) else runZ U k g (stU U z)) = some r := h
    rw [if_neg (fun q => q.elim (fun q => by rw [ho] at q; cases q) (by decide)), if_pos rfl] at h
    cases hs : stZ U k g z with
    | none => rw [hs] at h; cases h
    | some c => rw [hs] at h; exact ⟨g, c, rfl, hs, h⟩
section S88zq
variable {l : Launch} {X : Cx} {ρ : Rf} {U : Tx}
theorem m_dropSq (d : Nat) (hρ : RF ρ) {Q : Po} : ∀ (w out : List Nat) (σ : St), MPc σ out w → okT w → 1025 ∈ w → out.length + w.length < 1700 →
    (∀ σ', MPc σ' (out ++ tkW nSq w) (drW nSq w) → MW σ σ' → Ev l X (d + 2) 280 49 [.ref 326] [] 402 402 402 ρ σ' Q) →
    Ev l X (d + 2) 280 33 [.ref 326] [] 402 402 402 ρ σ Q := by
  intro w
  induction w with
  | nil => intro out σ _ _ h; cases h
  | cons e w ih =>
    intro out σ H ho hm hn hQ
    obtain ⟨he, how⟩ := okT_c ho
    obtain ⟨g1, g2, g3, g4, g5, g6, _⟩ := ec_T e he
    have hlt := okT_lt ho
    rw [List.length_cons] at hn
    by_cases hq : e = 1025
    · subst hq
      refine Ev_aload rfl rfl rfl ?_
      refine Ev_const rfl ?_
      refine Ev_callV rfl rfl rfl rfl rfl (same_n 402) (m_qIsOn _ (W := 1025 :: w) (c := 25) hρ H (by rw [List.length_cons]; omega) (by decide) hlt) ?_
      rintro v36 ρ36 σ36 ⟨rfl, e36, g36⟩
      obtain rfl := e36.symm
      obtain rfl := g36.symm
      refine Ev_norm (by rw [on_1, decide_eq_true (g5.mpr rfl)] : _ = bI true) ?_
      refine Ev_if_ne rfl (fun h39 => ?_) (fun h39 => absurd (show ¬ bI true = 0 by decide) h39)
      exact hQ σ (by rw [(tk_n (show nSq 1025 = false from rfl)).1, (tk_n (show nSq 1025 = false from rfl)).2, List.append_nil]; exact H) (MF.rf _ _ _)
    · have hs : nSq e = true := by unfold nSq; rw [nbeq hq]; rfl
      refine Ev_aload rfl rfl rfl ?_
      refine Ev_const rfl ?_
      refine Ev_callV rfl rfl rfl rfl rfl (same_n 402) (m_qIsOn _ (W := e :: w) (c := 25) hρ H (by rw [List.length_cons]; omega) (by decide) hlt) ?_
      rintro v36 ρ36 σ36 ⟨rfl, e36, g36⟩
      obtain rfl := e36.symm
      obtain rfl := g36.symm
      refine Ev_norm (by rw [on_1, decide_eq_false (fun z => hq (g5.mp z))] : _ = bI false) ?_
      refine Ev_if_ne rfl (fun h39 => absurd rfl h39) (fun h39 => ?_)
      refine Ev_aload rfl rfl rfl ?_
      refine Ev_callV rfl rfl rfl rfl rfl (same_n 402) (m_qDrops _ (W := w) hρ H (by omega) (by omega) (g4 hq)) ?_
      rintro v43 ρ43 σ43 ⟨rfl, e43, s43, c43⟩
      obtain rfl := e43.symm
      refine Ev_goto rfl ?_
      refine ih (out ++ [e]) σ43 s43 how ?_ (by rw [List.length_append]; show out.length + 1 + _ < _; omega) (fun σ' h1 h2 => hQ σ' ?_ (c43.tr h2))
      · rcases List.mem_cons.mp hm with z | z
        · exact absurd z.symm hq
        · exact z
      · rw [(tk_y hs).1, (tk_y hs).2]
        rw [List.append_assoc] at h1
        exact h1
theorem m_dropAn (d : Nat) (hρ : RF ρ) {Q : Po} : ∀ (w out : List Nat) (σ : St), MPc σ out w → okT w → out.length + w.length < 1700 →
    (∀ σ', MPc σ' (out ++ tkW isAn w) (drW isAn w) → MW σ σ' → Ev l X (d + 2) 280 103 [.ref 326] [] 402 402 402 ρ σ' Q) →
    Ev l X (d + 2) 280 87 [.ref 326] [] 402 402 402 ρ σ Q := by
  intro w
  induction w with
  | nil =>
    intro out σ H ho hn hQ
    refine Ev_aload rfl rfl rfl ?_
    refine Ev_const rfl ?_
    refine Ev_callV rfl rfl rfl rfl rfl (same_n 402) (m_qIsOn _ (W := []) (c := 10) hρ H (by decide) (by decide) (fun e he => by cases he)) ?_
    rintro v90 ρ90 σ90 ⟨rfl, e90, g90⟩
    obtain rfl := e90.symm
    obtain rfl := g90.symm
    refine Ev_norm (rfl : _ = bI false) ?_
    refine Ev_if_eq rfl (fun h93 => ?_) (fun h93 => absurd rfl h93)
    exact hQ σ (by show MPc σ (out ++ []) []; rw [List.append_nil]; exact H) (MF.rf _ _ _)
  | cons e w ih =>
    intro out σ H ho hn hQ
    obtain ⟨he, how⟩ := okT_c ho
    obtain ⟨g1, g2, g3, g4, g5, g6, g7, _⟩ := ec_T e he
    have hlt := okT_lt ho
    rw [List.length_cons] at hn
    by_cases hq : e = 43
    · have hs : isAn e = true := by rw [hq]; rfl
      refine Ev_aload rfl rfl rfl ?_
      refine Ev_const rfl ?_
      refine Ev_callV rfl rfl rfl rfl rfl (same_n 402) (m_qIsOn _ (W := e :: w) (c := 10) hρ H (by rw [List.length_cons]; omega) (by decide) hlt) ?_
      rintro v90 ρ90 σ90 ⟨rfl, e90, g90⟩
      obtain rfl := e90.symm
      obtain rfl := g90.symm
      refine Ev_norm (by rw [on_1, decide_eq_true (g7.mpr hq)] : _ = bI true) ?_
      refine Ev_if_eq rfl (fun h93 => absurd h93 (show ¬ bI true = 0 by decide)) (fun h93 => ?_)
      refine Ev_aload rfl rfl rfl ?_
      refine Ev_callV rfl rfl rfl rfl rfl (same_n 402) (m_qDrops _ (W := w) hρ H (by omega) (by omega) (g4 (by omega))) ?_
      rintro v97 ρ97 σ97 ⟨rfl, e97, s97, c97⟩
      obtain rfl := e97.symm
      refine Ev_goto rfl ?_
      refine ih (out ++ [e]) σ97 s97 how (by rw [List.length_append]; show out.length + 1 + _ < _; omega) (fun σ' h1 h2 => hQ σ' ?_ (c97.tr h2))
      rw [(tk_y hs).1, (tk_y hs).2]
      rw [List.append_assoc] at h1
      exact h1
    · have hs : isAn e = false := by unfold isAn; exact nbeq hq
      refine Ev_aload rfl rfl rfl ?_
      refine Ev_const rfl ?_
      refine Ev_callV rfl rfl rfl rfl rfl (same_n 402) (m_qIsOn _ (W := e :: w) (c := 10) hρ H (by rw [List.length_cons]; omega) (by decide) hlt) ?_
      rintro v90 ρ90 σ90 ⟨rfl, e90, g90⟩
      obtain rfl := e90.symm
      obtain rfl := g90.symm
      refine Ev_norm (by rw [on_1, decide_eq_false (fun z => hq (g7.mp z))] : _ = bI false) ?_
      refine Ev_if_eq rfl (fun h93 => ?_) (fun h93 => absurd rfl h93)
      exact hQ σ (by rw [(tk_n hs).1, (tk_n hs).2, List.append_nil]; exact H) (MF.rf _ _ _)
theorem m_dropLo (d : Nat) (hρ : RF ρ) {Q : Po} : ∀ (w out : List Nat) (σ : St), MPc σ out w → okT w → out.length + w.length < 1700 →
    (∀ σ', MPc σ' (out ++ tkW isLo w) (drW isLo w) → MW σ σ' → Ev l X (d + 2) 280 162 [.ref 326] [] 402 402 402 ρ σ' Q) →
    Ev l X (d + 2) 280 137 [.ref 326] [] 402 402 402 ρ σ Q := by
  intro w
  induction w with
  | nil =>
    intro out σ H ho hn hQ
    refine Ev_aload rfl rfl rfl ?_
    refine Ev_const rfl ?_
    refine Ev_callV rfl rfl rfl rfl rfl (same_n 402) (m_qIsOn _ (W := []) (c := 10) hρ H (by decide) (by decide) (fun e he => by cases he)) ?_
    rintro v140 ρ140 σ140 ⟨rfl, e140, g140⟩
    obtain rfl := e140.symm
    obtain rfl := g140.symm
    refine Ev_norm (rfl : _ = bI false) ?_
    refine Ev_if_ne rfl (fun h143 => absurd rfl h143) (fun h143 => ?_)
    refine Ev_aload rfl rfl rfl ?_
    refine Ev_const rfl ?_
    refine Ev_callV rfl rfl rfl rfl rfl (same_n 402) (m_qIsOn _ (W := []) (c := 11) hρ H (by decide) (by decide) (fun e he => by cases he)) ?_
    rintro v149 ρ149 σ149 ⟨rfl, e149, g149⟩
    obtain rfl := e149.symm
    obtain rfl := g149.symm
    refine Ev_norm (rfl : _ = bI false) ?_
    refine Ev_if_eq rfl (fun h152 => ?_) (fun h152 => absurd rfl h152)
    exact hQ σ (by show MPc σ (out ++ []) []; rw [List.append_nil]; exact H) (MF.rf _ _ _)
  | cons e w ih =>
    intro out σ H ho hn hQ
    obtain ⟨he, how⟩ := okT_c ho
    obtain ⟨g1, g2, g3, g4, g5, g6, g7, g8, _⟩ := ec_T e he
    have hlt := okT_lt ho
    rw [List.length_cons] at hn
    have drop : isLo e = true → e ≠ 1025 → Ev l X (d + 2) 280 155 [.ref 326] [] 402 402 402 ρ σ Q := fun hs hq => by
      refine Ev_aload rfl rfl rfl ?_
      refine Ev_callV rfl rfl rfl rfl rfl (same_n 402) (m_qDrops _ (W := w) hρ H (by omega) (by omega) (g4 hq)) ?_
      rintro v156 ρ156 σ156 ⟨rfl, e156, s156, c156⟩
      obtain rfl := e156.symm
      refine Ev_goto rfl ?_
      refine ih (out ++ [e]) σ156 s156 how (by rw [List.length_append]; show out.length + 1 + _ < _; omega) (fun σ' h1 h2 => hQ σ' ?_ (c156.tr h2))
      rw [(tk_y hs).1, (tk_y hs).2]
      rw [List.append_assoc] at h1
      exact h1
    by_cases hq : e = 43
    · refine Ev_aload rfl rfl rfl ?_
      refine Ev_const rfl ?_
      refine Ev_callV rfl rfl rfl rfl rfl (same_n 402) (m_qIsOn _ (W := e :: w) (c := 10) hρ H (by rw [List.length_cons]; omega) (by decide) hlt) ?_
      rintro v140 ρ140 σ140 ⟨rfl, e140, g140⟩
      obtain rfl := e140.symm
      obtain rfl := g140.symm
      refine Ev_norm (by rw [on_1, decide_eq_true (g7.mpr hq)] : _ = bI true) ?_
      refine Ev_if_ne rfl (fun h143 => ?_) (fun h143 => absurd (show ¬ bI true = 0 by decide) h143)
      exact drop (by rw [hq]; rfl) (by omega)
    · by_cases hq2 : e = 44
      · refine Ev_aload rfl rfl rfl ?_
        refine Ev_const rfl ?_
        refine Ev_callV rfl rfl rfl rfl rfl (same_n 402) (m_qIsOn _ (W := e :: w) (c := 10) hρ H (by rw [List.length_cons]; omega) (by decide) hlt) ?_
        rintro v140 ρ140 σ140 ⟨rfl, e140, g140⟩
        obtain rfl := e140.symm
        obtain rfl := g140.symm
        refine Ev_norm (by rw [on_1, decide_eq_false (fun z => hq (g7.mp z))] : _ = bI false) ?_
        refine Ev_if_ne rfl (fun h143 => absurd rfl h143) (fun h143 => ?_)
        refine Ev_aload rfl rfl rfl ?_
        refine Ev_const rfl ?_
        refine Ev_callV rfl rfl rfl rfl rfl (same_n 402) (m_qIsOn _ (W := e :: w) (c := 11) hρ H (by rw [List.length_cons]; omega) (by decide) hlt) ?_
        rintro v149 ρ149 σ149 ⟨rfl, e149, g149⟩
        obtain rfl := e149.symm
        obtain rfl := g149.symm
        refine Ev_norm (by rw [on_1, decide_eq_true (g8.mpr hq2)] : _ = bI true) ?_
        refine Ev_if_eq rfl (fun h152 => absurd h152 (show ¬ bI true = 0 by decide)) (fun h152 => ?_)
        exact drop (by rw [hq2]; rfl) (by omega)
      · have hs : isLo e = false := by unfold isLo; rw [nbeq hq, nbeq hq2]; rfl
        refine Ev_aload rfl rfl rfl ?_
        refine Ev_const rfl ?_
        refine Ev_callV rfl rfl rfl rfl rfl (same_n 402) (m_qIsOn _ (W := e :: w) (c := 10) hρ H (by rw [List.length_cons]; omega) (by decide) hlt) ?_
        rintro v140 ρ140 σ140 ⟨rfl, e140, g140⟩
        obtain rfl := e140.symm
        obtain rfl := g140.symm
        refine Ev_norm (by rw [on_1, decide_eq_false (fun z => hq (g7.mp z))] : _ = bI false) ?_
        refine Ev_if_ne rfl (fun h143 => absurd rfl h143) (fun h143 => ?_)
        refine Ev_aload rfl rfl rfl ?_
        refine Ev_const rfl ?_
        refine Ev_callV rfl rfl rfl rfl rfl (same_n 402) (m_qIsOn _ (W := e :: w) (c := 11) hρ H (by rw [List.length_cons]; omega) (by decide) hlt) ?_
        rintro v149 ρ149 σ149 ⟨rfl, e149, g149⟩
        obtain rfl := e149.symm
        obtain rfl := g149.symm
        refine Ev_norm (by rw [on_1, decide_eq_false (fun z => hq2 (g8.mp z))] : _ = bI false) ?_
        refine Ev_if_eq rfl (fun h152 => ?_) (fun h152 => absurd rfl h152)
        exact hQ σ (by rw [(tk_n hs).1, (tk_n hs).2, List.append_nil]; exact H) (MF.rf _ _ _)
/-- and, or put on the pile -/
theorem m_pushAn (d : Nat) {σ : St} {out W : List Nat} (hρ : RF ρ) (H : MPc σ out W) (hw : W.length < 1700) :
    Ev l X (d + 2) 280 103 [.ref 326] [] 402 402 402 ρ σ (fun v' ρ' σ' => v' = some (.int 1) ∧ ρ' = ρ ∧ MPc σ' out (43 :: W) ∧ MW σ σ') := by
  have hp := push_pc (t := 43) H rfl
  refine Ev_aload rfl rfl rfl ?_
  refine Ev_getR rfl (by first | rfl | assumption) (hρ _ _ _ rfl) ?_
  refine Ev_aload rfl rfl rfl ?_
  refine Ev_getI rfl (by first | rfl | assumption) ?_
  refine Ev_norm H.2.2.1 ?_
  refine Ev_const rfl ?_
  refine Ev_iast rfl (by first | rfl | assumption) (vp_in_nI (n := W.length) (show W.length < 1700 from hw) (by decide)) ?_
  refine Ev_aload rfl rfl rfl ?_
  refine Ev_dup rfl (fun _ q => nomatch q) ?_
  refine Ev_getI rfl (by first | rfl | assumption) ?_
  refine Ev_norm (by rw [sR_1 _ _ (by decide)]; exact H.2.2.1 : _ = nI W.length) ?_
  refine Ev_const rfl ?_
  refine Ev_iadd rfl ?_
  refine Ev_norm (nI_1 W.length) ?_
  refine Ev_putI rfl (by first | rfl | assumption) ⟨rfl, rfl⟩ rfl ?_
  refine Ev_const rfl ?_
  exact Ev_ireturn rfl rfl (narZ true) rfl ⟨rfl, rfl, by rw [nI_clamp (by omega)]; exact hp⟩
theorem m_pushLo (d : Nat) {σ : St} {out W : List Nat} (hρ : RF ρ) (H : MPc σ out W) (hw : W.length < 1700) :
    Ev l X (d + 2) 280 162 [.ref 326] [] 402 402 402 ρ σ (fun v' ρ' σ' => v' = some (.int 1) ∧ ρ' = ρ ∧ MPc σ' out (44 :: W) ∧ MW σ σ') := by
  have hp := push_pc (t := 44) H rfl
  refine Ev_aload rfl rfl rfl ?_
  refine Ev_getR rfl (by first | rfl | assumption) (hρ _ _ _ rfl) ?_
  refine Ev_aload rfl rfl rfl ?_
  refine Ev_getI rfl (by first | rfl | assumption) ?_
  refine Ev_norm H.2.2.1 ?_
  refine Ev_const rfl ?_
  refine Ev_iast rfl (by first | rfl | assumption) (vp_in_nI (n := W.length) (show W.length < 1700 from hw) (by decide)) ?_
  refine Ev_aload rfl rfl rfl ?_
  refine Ev_dup rfl (fun _ q => nomatch q) ?_
  refine Ev_getI rfl (by first | rfl | assumption) ?_
  refine Ev_norm (by rw [sR_1 _ _ (by decide)]; exact H.2.2.1 : _ = nI W.length) ?_
  refine Ev_const rfl ?_
  refine Ev_iadd rfl ?_
  refine Ev_norm (nI_1 W.length) ?_
  refine Ev_putI rfl (by first | rfl | assumption) ⟨rfl, rfl⟩ rfl ?_
  refine Ev_const rfl ?_
  exact Ev_ireturn rfl rfl (narZ true) rfl ⟨rfl, rfl, by rw [nI_clamp (by omega)]; exact hp⟩
/-- a square closed -/
theorem m_goSq (d : Nat) {σ : St} {out w : List Nat} {o a tc P : Nat} (hρ : RF ρ) (hT : TxW U) (ha : a < U.1) (H : MTt σ U (.inr (a, tc))) (hq : MPq σ out w o) (ho : okT w) (hl : out.length + w.length + P ≤ a) (hB : 1025 ∈ w) {Q : Po}
    (hQ : ∀ σ', MZs P σ' U (dnZ (.inr (a + 1, 0)) (out ++ tkW nSq w) ((drW nSq w).tail) (o - 1)) → MB σ σ' → Ev l X (d + 4) 280 0 [.ref 326] [] 402 402 402 ρ σ' Q) :
    Ev l X (d + 4) 280 23 [.ref 326] [] 402 402 402 ρ σ Q := by
  have h16 := hT.1
  have hds := dr_sq w hB
  have htl := tk_len nSq w
  have hcd := cnt_dt nSq w
  have hok := okT_dr nSq w ho
  generalize (drW nSq w).tail = tl at *
  rw [hds] at htl hcd hok
  rw [List.length_cons] at htl
  rw [cnt_p (show isOpn 1025 = true from rfl)] at hcd
  have ho1 : cntO w ≤ o := hq.2.2.1
  have ho6 : o ≤ 6 := hq.2.2.2
  have eo : o = o - 1 + 1 := by omega
  have hokt := (okT_c hok).2
  have s1 := H.on1 ha hT
  have hq1 := hq.mx (mx_put (σ := σ) (f := 2) (nI (a + 1)) rfl)
  refine Ev_aload rfl rfl rfl ?_
  refine Ev_dup rfl (fun _ q => nomatch q) ?_
  refine Ev_getI rfl (by first | rfl | assumption) ?_
  refine Ev_norm H.at0 ?_
  refine Ev_const rfl ?_
  refine Ev_iadd rfl ?_
  refine Ev_norm (nI_1 a) ?_
  refine Ev_putI rfl (by first | rfl | assumption) ⟨rfl, rfl⟩ rfl ?_
  refine m_dropSq (d + 2) hρ w out _ hq1.1 ho hB (by omega) (fun σ2 h2 c2 => ?_)
  rw [hds] at h2
  refine Ev_aload rfl rfl rfl ?_
  refine Ev_dup rfl (fun _ q => nomatch q) ?_
  refine Ev_getI rfl (by first | rfl | assumption) ?_
  refine Ev_norm (h2.2.2.1 : _ = nI (tl.length + 1)) ?_
  refine Ev_const rfl ?_
  refine Ev_isub rfl ?_
  refine Ev_norm (pk_s1 tl.length) ?_
  refine Ev_putI rfl (by first | rfl | assumption) ⟨rfl, rfl⟩ rfl ?_
  refine Ev_aload rfl rfl rfl ?_
  refine Ev_dup rfl (fun _ q => nomatch q) ?_
  refine Ev_getI rfl (by first | rfl | assumption) ?_
  refine Ev_norm (by rw [sR_0, pk_un (by decide), c2.2.2 _ rfl, ← eo]; exact hq1.2.1 : _ = nI (o - 1 + 1)) ?_
  refine Ev_const rfl ?_
  refine Ev_isub rfl ?_
  refine Ev_norm (pk_s1 (o - 1)) ?_
  refine Ev_putI rfl (by first | rfl | assumption) ⟨rfl, rfl⟩ rfl ?_
  refine Ev_aload rfl rfl rfl ?_
  have hp4 : MPc (sI (sI σ2 326 (upd (σ2.1 326) 102 (nI tl.length))) 326 (upd ((sI σ2 326 (upd (σ2.1 326) 102 (nI tl.length))).1 326) 103 (nI (o - 1)))) (out ++ tkW nSq w) tl := ⟨by rw [sR_0, pk_un (by decide), sR_0, pk_un (by decide)]; exact h2.1, by rw [sR_1 _ _ (by decide), sR_1 _ _ (by decide)]; exact h2.2.1, by rw [sR_0, pk_un (by decide), sR_0, pk_us], by rw [sR_1 _ _ (by decide), sR_1 _ _ (by decide)]; exact h2.2.2.2.2⟩
  have hm4 : MZ (sI σ 326 (upd (σ.1 326) 2 (nI (a + 1)))) (sI (sI σ2 326 (upd (σ2.1 326) 102 (nI tl.length))) 326 (upd ((sI σ2 326 (upd (σ2.1 326) 102 (nI tl.length))).1 326) 103 (nI (o - 1)))) := MF.tr c2.z ((MF.put _ rfl).tr (MF.put _ rfl))
  have hc4 : MB (sI σ 326 (upd (σ.1 326) 2 (nI (a + 1)))) (sI (sI σ2 326 (upd (σ2.1 326) 102 (nI tl.length))) 326 (upd ((sI σ2 326 (upd (σ2.1 326) 102 (nI tl.length))).1 326) 103 (nI (o - 1)))) := MF.tr c2.b ((MF.put _ rfl).tr (MF.put _ rfl))
  have ho4 : (sI (sI σ2 326 (upd (σ2.1 326) 102 (nI tl.length))) 326 (upd ((sI σ2 326 (upd (σ2.1 326) 102 (nI tl.length))).1 326) 103 (nI (o - 1)))).1 326 103 = nI (o - 1) := by rw [sR_0, pk_us]
  refine Ev_callV rfl rfl rfl rfl rfl (same_n 402) (T_of rfl (m_qDropsNots _ hρ tl (out ++ tkW nSq w) (o - 1) (.inr (a + 1, 0)) _ (s1.mz hm4) (fun _ => ⟨⟨hp4, ho4, by omega, by omega⟩, hokt, by rw [List.length_append]; omega⟩))) ?_
  rintro v70 ρ70 σ70 ⟨rfl, e70, s70, q70, c70⟩
  obtain rfl := e70.symm
  refine Ev_goto rfl ?_
  have e1 := dnZ_s (.inr (a + 1, 0)) tl (out ++ tkW nSq w) (o - 1)
  refine hQ σ70 ⟨by rw [e1]; exact s70, fun z => ?_⟩ (((mx_put (σ := σ) (f := 2) (nI (a + 1)) rfl).b.tr hc4).tr c70)
  obtain ⟨z1, z2, z3⟩ := q70 rfl
  refine ⟨z1, z2, ?_⟩
  rw [z3, e1, List.length_append]
  show _ ≤ a + 1
  omega
/-- behind a fact, where no square is closed -/
theorem m_goRestT (d : Nat) {σ : St} {out w : List Nat} {o k f P : Nat} {p : Nat × Nat} {r : Ys} (hρ : RF ρ) (hT : TxW U) (hW : Wds σ) (H : MTt σ U (skM U (.inr p))) (hq : MPq σ out w o) (ho : okT w) (hl : out.length + w.length + P ≤ p.1) (hp : p.1 ≤ U.1)
    (hn : ¬ (mC U (.inr p) = some 93 ∧ 1025 ∈ w)) (hr : runZ U k f (stU U (.inr p, out, w, o)) = some r) :
    Ev l X (d + 4) 280 76 [.ref 326] [] 402 402 402 ρ σ (fun v' ρ' σ' => ρ' = ρ ∧ MB σ σ' ∧ ((v' = some (.int 1) ∧ ∃ y', isOk y'.1 = true ∧ runZ U k f (0, y') = some r ∧ MZs P σ' U y') ∨ (v' = some (.int 0) ∧ MZs P σ' U r))) := by
  have h16 := hT.1
  have hup := skp_up U p.1
  have sk := skM_i U (.inr p)
  have ek : ∀ (w : List Nat), mTk U w (skM U (.inr p)) = if mWd U (.inr p) = w then adv w.length 1 (skM U (.inr p)) else skM U (.inr p) := fun w => by unfold mTk; rw [sk.2.2.1, sk.1]
  by_cases hA : mWd U (.inr p) = wAnd
  · have eS : stU U (.inr p, out, w, o) = (0, (.inr (skp U p.1 + 3, 1), out ++ tkW isAn w, 43 :: drW isAn w, o)) := by
      unfold stU; rw [if_neg hn, if_pos hA]; rfl
    rw [eS] at hr
    have hle : skp U p.1 + 3 ≤ U.1 := wd_le hp hA
    have htl := tk_len isAn w
    refine Ev_aload rfl rfl rfl ?_
    refine Ev_aload rfl rfl rfl ?_
    refine Ev_getR rfl (by first | rfl | assumption) (hρ _ _ _ rfl) ?_
    refine Ev_callV rfl rfl rfl rfl rfl (same_n 402) (m_takes _ hρ hT hW (k := 382) (w := [97, 110, 100]) (by decide) H) ?_
    rintro v81 ρ81 σ81 ⟨rfl, e81, s81, c81⟩
    refine Ev_norm (by rw [sk.2.2.1]; exact congrArg bI (decide_eq_true hA) : _ = bI true) ?_
    obtain rfl := e81.symm
    refine Ev_if_eq rfl (fun h84 => absurd h84 (show ¬ bI true = 0 by decide)) (fun h84 => ?_)
    rw [ek, if_pos (show mWd U (.inr p) = [97, 110, 100] from hA)] at s81
    have s81 : MTt σ81 U (.inr (skp U p.1 + 3, 1)) := s81
    refine m_dropAn (d + 2) hρ w out σ81 (hq.mx c81).1 ho (by omega) (fun σ1 h1 c1 => ?_)
    refine (m_pushAn (d + 2) hρ h1 (by omega)).mono (fun v' ρ' σ' h => ⟨h.2.1, (c81.b.tr c1.b).tr h.2.2.2.b, Or.inl ⟨h.1, _, rfl, hr, (s81.mz c1.z).mz h.2.2.2.z, fun _ => ⟨hq.mk h.2.2.1 ?_ ?_, okT_p (by decide) (okT_dr _ w ho), ?_⟩⟩⟩)
    · rw [h.2.2.2.2.2 _ rfl, c1.2.2 _ rfl, c81.2.2 _ rfl]
    · exact Nat.le_trans (Nat.le_of_eq (cnt_n rfl)) (cnt_dt _ _)
    · show (out ++ tkW isAn w).length + ((drW isAn w).length + 1) + P ≤ skp U p.1 + 3
      rw [List.length_append]; omega
  · by_cases hO : mWd U (.inr p) = wOr
    · have eS : stU U (.inr p, out, w, o) = (0, (.inr (skp U p.1 + 2, 1), out ++ tkW isLo w, 44 :: drW isLo w, o)) := by
        unfold stU; rw [if_neg hn, if_neg hA, if_pos hO]; rfl
      rw [eS] at hr
      have hle : skp U p.1 + 2 ≤ U.1 := wd_le hp hO
      have htl := tk_len isLo w
      refine Ev_aload rfl rfl rfl ?_
      refine Ev_aload rfl rfl rfl ?_
      refine Ev_getR rfl (by first | rfl | assumption) (hρ _ _ _ rfl) ?_
      refine Ev_callV rfl rfl rfl rfl rfl (same_n 402) (m_takes _ hρ hT hW (k := 382) (w := [97, 110, 100]) (by decide) H) ?_
      rintro v81 ρ81 σ81 ⟨rfl, e81, s81, c81⟩
      refine Ev_norm (by rw [sk.2.2.1]; exact congrArg bI (decide_eq_false hA) : _ = bI false) ?_
      obtain rfl := e81.symm
      refine Ev_if_eq rfl (fun h84 => ?_) (fun h84 => absurd rfl h84)
      refine Ev_aload rfl rfl rfl ?_
      refine Ev_aload rfl rfl rfl ?_
      rw [ek, if_neg (show ¬ mWd U (.inr p) = [97, 110, 100] from hA)] at s81
      refine Ev_getR rfl (by first | rfl | assumption) (hρ _ _ _ rfl) ?_
      refine Ev_callV rfl rfl rfl rfl rfl (same_n 402) (m_takes _ hρ hT (hW.mx c81) (k := 383) (w := [111, 114]) (by decide) s81) ?_
      rintro v131 ρ131 σ131 ⟨rfl, e131, s131, c131⟩
      refine Ev_norm (by rw [sk.2.2.1]; exact congrArg bI (decide_eq_true hO) : _ = bI true) ?_
      obtain rfl := e131.symm
      refine Ev_if_eq rfl (fun h134 => absurd h134 (show ¬ bI true = 0 by decide)) (fun h134 => ?_)
      rw [ek, if_pos (show mWd U (.inr p) = [111, 114] from hO)] at s131
      have s131 : MTt σ131 U (.inr (skp U p.1 + 2, 1)) := s131
      have cc : MX σ σ131 := c81.tr c131
      refine m_dropLo (d + 2) hρ w out σ131 (hq.mx cc).1 ho (by omega) (fun σ1 h1 c1 => ?_)
      refine (m_pushLo (d + 2) hρ h1 (by omega)).mono (fun v' ρ' σ' h => ⟨h.2.1, (cc.b.tr c1.b).tr h.2.2.2.b, Or.inl ⟨h.1, _, rfl, hr, (s131.mz c1.z).mz h.2.2.2.z, fun _ => ⟨hq.mk h.2.2.1 ?_ ?_, okT_p (by decide) (okT_dr _ w ho), ?_⟩⟩⟩)
      · rw [h.2.2.2.2.2 _ rfl, c1.2.2 _ rfl, cc.2.2 _ rfl]
      · exact Nat.le_trans (Nat.le_of_eq (cnt_n rfl)) (cnt_dt _ _)
      · show (out ++ tkW isLo w).length + ((drW isLo w).length + 1) + P ≤ skp U p.1 + 2
        rw [List.length_append]; omega
    · have go : ∀ {Q : Po}, (∀ σ2, MTt σ2 U (skM U (.inr p)) → MX σ σ2 → Ev l X (d + 4) 280 185 [.ref 326] [] 402 402 402 ρ σ2 Q) → Ev l X (d + 4) 280 76 [.ref 326] [] 402 402 402 ρ σ Q := fun hQ => by
        refine Ev_aload rfl rfl rfl ?_
        refine Ev_aload rfl rfl rfl ?_
        refine Ev_getR rfl (by first | rfl | assumption) (hρ _ _ _ rfl) ?_
        refine Ev_callV rfl rfl rfl rfl rfl (same_n 402) (m_takes _ hρ hT hW (k := 382) (w := [97, 110, 100]) (by decide) H) ?_
        rintro v81 ρ81 σ81 ⟨rfl, e81, s81, c81⟩
        refine Ev_norm (by rw [sk.2.2.1]; exact congrArg bI (decide_eq_false hA) : _ = bI false) ?_
        obtain rfl := e81.symm
        refine Ev_if_eq rfl (fun h84 => ?_) (fun h84 => absurd rfl h84)
        refine Ev_aload rfl rfl rfl ?_
        refine Ev_aload rfl rfl rfl ?_
        rw [ek, if_neg (show ¬ mWd U (.inr p) = [97, 110, 100] from hA)] at s81
        refine Ev_getR rfl (by first | rfl | assumption) (hρ _ _ _ rfl) ?_
        refine Ev_callV rfl rfl rfl rfl rfl (same_n 402) (m_takes _ hρ hT (hW.mx c81) (k := 383) (w := [111, 114]) (by decide) s81) ?_
        rintro v131 ρ131 σ131 ⟨rfl, e131, s131, c131⟩
        refine Ev_norm (by rw [sk.2.2.1]; exact congrArg bI (decide_eq_false hO) : _ = bI false) ?_
        obtain rfl := e131.symm
        refine Ev_if_eq rfl (fun h134 => ?_) (fun h134 => absurd rfl h134)
        rw [ek, if_neg (show ¬ mWd U (.inr p) = [111, 114] from hO)] at s131
        exact hQ σ131 s131 (c81.tr c131)
      refine go (fun σ0 s0 c0 => ?_)
      have hq0 := hq.mx c0
      by_cases h5 : 1025 ∈ w
      · have eS : stU U (.inr p, out, w, o) = (2, (flA 1 0 (skM U (.inr p)), out, w, o)) := by
          unfold stU; rw [if_neg hn, if_neg hA, if_neg hO, if_pos h5]
        rw [eS] at hr
        have hrr := runZ_r hr (Or.inr rfl)
        refine Ev_aload rfl rfl rfl ?_
        refine Ev_getI rfl (by first | rfl | assumption) ?_
        refine Ev_norm (MTt.bad0 (p := (skp U p.1, tcN U p.1 p.2)) s0) ?_
        refine Ev_if_ne rfl (fun h189 => absurd rfl h189) (fun h189 => ?_)
        refine Ev_aload rfl rfl rfl ?_
        refine Ev_callV rfl rfl rfl rfl rfl (same_n 402) (m_qHasSquare _ hρ hq0.1 (by omega) ho) ?_
        rintro v193 ρ193 σ193 ⟨rfl, e193, g193⟩
        obtain rfl := e193.symm
        obtain rfl := g193.symm
        refine Ev_norm (by rw [decide_eq_true h5] : _ = bI true) ?_
        refine Ev_if_eq rfl (fun h196 => absurd h196 (show ¬ bI true = 0 by decide)) (fun h196 => ?_)
        refine Ev_aload rfl rfl rfl ?_
        refine Ev_const rfl ?_
        refine Ev_aload rfl rfl rfl ?_
        refine Ev_getI rfl (by first | rfl | assumption) ?_
        refine Ev_norm s0.at0 ?_
        refine Ev_callV rfl rfl rfl rfl rfl (same_n 402) (m_fail _ (w := 1) (k := skp U p.1) s0 (by decide) (fun _ _ => rfl)) ?_
        rintro v205 ρ205 σ205 ⟨rfl, e205, s205, c205⟩
        obtain rfl := e205.symm
        refine Ev_const rfl ?_
        exact Ev_ireturn rfl rfl (narZ false) rfl ⟨rfl, c0.b.tr c205.b, Or.inr ⟨rfl, by rw [← hrr]; exact ⟨s205, fun z => by cases z⟩⟩⟩
      · have eS : stU U (.inr p, out, w, o) = (2, (skM U (.inr p), out, w, o)) := by
          unfold stU; rw [if_neg hn, if_neg hA, if_neg hO, if_neg h5]
        rw [eS] at hr
        have hrr := runZ_r hr (Or.inr rfl)
        refine Ev_aload rfl rfl rfl ?_
        refine Ev_getI rfl (by first | rfl | assumption) ?_
        refine Ev_norm (MTt.bad0 (p := (skp U p.1, tcN U p.1 p.2)) s0) ?_
        refine Ev_if_ne rfl (fun h189 => absurd rfl h189) (fun h189 => ?_)
        refine Ev_aload rfl rfl rfl ?_
        refine Ev_callV rfl rfl rfl rfl rfl (same_n 402) (m_qHasSquare _ hρ hq0.1 (by omega) ho) ?_
        rintro v193 ρ193 σ193 ⟨rfl, e193, g193⟩
        obtain rfl := e193.symm
        obtain rfl := g193.symm
        refine Ev_norm (by rw [decide_eq_false h5] : _ = bI false) ?_
        refine Ev_if_eq rfl (fun h196 => ?_) (fun h196 => absurd rfl h196)
        refine Ev_const rfl ?_
        exact Ev_ireturn rfl rfl (narZ false) rfl ⟨rfl, c0.b, Or.inr ⟨rfl, by rw [← hrr]; exact ⟨s0, fun _ => ⟨hq0, ho, Nat.le_trans hl hup⟩⟩⟩⟩
theorem m_goTest (d : Nat) {k P : Nat} {r : Ys} (hρ : RF ρ) (hT : TxW U) : ∀ (f : Nat) (p : Nat × Nat) (out w : List Nat) (o : Nat) (σ : St), MZs P σ U (.inr p, out, w, o) → Wds σ → runZ U k f (1, (.inr p, out, w, o)) = some r →
    Ev l X (d + 4) 280 0 [.ref 326] [] 402 402 402 ρ σ (fun v' ρ' σ' => ρ' = ρ ∧ MB σ σ' ∧ ((v' = some (.int 1) ∧ ∃ f' y', f' < f ∧ isOk y'.1 = true ∧ runZ U k f' (0, y') = some r ∧ MZs P σ' U y') ∨ (v' = some (.int 0) ∧ MZs P σ' U r))) := by
  have h16 := hT.1
  intro f
  induction f with
  | zero => intro p out w o σ _ _ h; cases h
  | succ f ih =>
    intro p out w o σ HY hW hr
    obtain ⟨H, hq⟩ := HY
    have H : MTt σ U (.inr p) := H
    obtain ⟨hq, ho, hl⟩ := hq rfl
    have hq : MPq σ out w o := hq
    have ho : okT w := ho
    have hl : out.length + w.length + P ≤ p.1 := hl
    obtain ⟨g, hg, hr⟩ := runZ_u hr rfl
    obtain rfl : f = g := by omega
    have hp : p.1 ≤ U.1 := H.le
    have hup := skp_up U p.1
    have hev := lkV_eq (mC_256 hT (s := .inr p)) (show 93 < 256 by decide)
    by_cases hn : mC U (.inr p) = some 93 ∧ 1025 ∈ w
    · have eS : stU U (.inr p, out, w, o) = (1, dnZ (.inr (skp U p.1 + 1, 0)) (out ++ tkW nSq w) ((drW nSq w).tail) (o - 1)) := by
        unfold stU; rw [if_pos hn]; rfl
      rw [eS] at hr
      refine Ev_aload rfl rfl rfl ?_
      refine Ev_getI rfl (by first | rfl | assumption) ?_
      refine Ev_norm H.bad0 ?_
      refine Ev_if_ne rfl (fun h4 => absurd rfl h4) (fun h4 => ?_)
      refine Ev_aload rfl rfl rfl ?_
      refine Ev_callV rfl rfl rfl rfl rfl (same_n 402) (m_look _ hρ hT H) ?_
      rintro v8 ρ8 σ8 ⟨⟨x, rfl, hx⟩, e8, s8, c8⟩
      obtain rfl := e8.symm
      have hx := hx rfl
      subst hx
      refine Ev_const rfl ?_
      refine Ev_icmp_ne rfl (fun h13 => absurd (hev.mpr hn.1) h13) (fun h13 => ?_)
      refine Ev_aload rfl rfl rfl ?_
      refine Ev_callV rfl rfl rfl rfl rfl (same_n 402) (m_qHasSquare _ hρ (hq.mx c8).1 (by omega) ho) ?_
      rintro v17 ρ17 σ17 ⟨rfl, e17, g17⟩
      obtain rfl := e17.symm
      obtain rfl := g17.symm
      refine Ev_norm (by rw [decide_eq_true hn.2] : _ = bI true) ?_
      refine Ev_if_eq rfl (fun h20 => absurd h20 (show ¬ bI true = 0 by decide)) (fun h20 => ?_)
      refine m_goSq d (P := P) hρ hT (mC_at hn.1).1 s8 (hq.mx c8) ho (by omega) hn.2 (fun σ3 y3 c3 => ?_)
      have e1 := dnZ_s (.inr (skp U p.1 + 1, 0)) ((drW nSq w).tail) (out ++ tkW nSq w) (o - 1)
      generalize dnZ (.inr (skp U p.1 + 1, 0)) (out ++ tkW nSq w) ((drW nSq w).tail) (o - 1) = y at *
      obtain ⟨ys, yo, yw, yn⟩ := y
      obtain rfl : ys = .inr (skp U p.1 + 1, 0) := e1
      refine (ih _ yo yw yn σ3 y3 (hW.b (c8.b.tr c3)) hr).mono (fun v' ρ' σ' h => ⟨h.1, (c8.b.tr c3).tr h.2.1, ?_⟩)
      rcases h.2.2 with ⟨q1, f', y', q2, q3⟩ | q
      · exact Or.inl ⟨q1, f', y', by omega, q3⟩
      · exact Or.inr q
    · have fin : ∀ σ2, MTt σ2 U (skM U (.inr p)) → MX σ σ2 → Ev l X (d + 4) 280 76 [.ref 326] [] 402 402 402 ρ σ2 (fun v' ρ' σ' => ρ' = ρ ∧ MB σ σ' ∧ ((v' = some (.int 1) ∧ ∃ f' y', f' < f + 1 ∧ isOk y'.1 = true ∧ runZ U k f' (0, y') = some r ∧ MZs P σ' U y') ∨ (v' = some (.int 0) ∧ MZs P σ' U r))) := fun σ2 s2 c2 => by
        refine (m_goRestT d (f := f) (P := P) hρ hT (hW.mx c2) s2 (hq.mx c2) ho hl hp hn hr).mono (fun v' ρ' σ' h => ⟨h.1, c2.b.tr h.2.1, ?_⟩)
        rcases h.2.2 with ⟨q1, y', q3⟩ | q
        · exact Or.inl ⟨q1, f, y', by omega, q3⟩
        · exact Or.inr q
      refine Ev_aload rfl rfl rfl ?_
      refine Ev_getI rfl (by first | rfl | assumption) ?_
      refine Ev_norm H.bad0 ?_
      refine Ev_if_ne rfl (fun h4 => absurd rfl h4) (fun h4 => ?_)
      refine Ev_aload rfl rfl rfl ?_
      refine Ev_callV rfl rfl rfl rfl rfl (same_n 402) (m_look _ hρ hT H) ?_
      rintro v8 ρ8 σ8 ⟨⟨x, rfl, hx⟩, e8, s8, c8⟩
      obtain rfl := e8.symm
      have hx := hx rfl
      subst hx
      refine Ev_const rfl ?_
      refine Ev_icmp_ne rfl (fun h13 => ?_) (fun h13 => ?_)
      · exact fin σ8 s8 c8
      · refine Ev_aload rfl rfl rfl ?_
        refine Ev_callV rfl rfl rfl rfl rfl (same_n 402) (m_qHasSquare _ hρ (hq.mx c8).1 (by omega) ho) ?_
        rintro v17 ρ17 σ17 ⟨rfl, e17, g17⟩
        obtain rfl := e17.symm
        obtain rfl := g17.symm
        refine Ev_if_eq rfl (fun h20 => ?_) (fun h20 => absurd (show bI (decide (1025 ∈ w)) = 0 by rw [decide_eq_false (fun z => hn ⟨hev.mp (Decidable.not_not.mp h13), z⟩)]; rfl) h20)
        exact fin σ8 s8 c8
end S88zq
