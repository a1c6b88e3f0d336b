/-! A text read: the class finds a word, goes on. -/
def ltrs (w : List Nat) : Prop := ∀ c, c ∈ w → ltB c = true
theorem sb_ltr : ∀ v, v < 256 → ∀ c, 97 ≤ c → c < 123 → (sb v = nI c ↔ v = c) := by
  intro v hv c h1 h2
  have e : (sb v).toInt = if v < 128 then (v : Int) else (v : Int) - 256 := by
    have : ∀ v, v < 256 → (sb v).toInt = if v < 128 then (v : Int) else (v : Int) - 256 := by decide +kernel
    exact this v hv
  constructor
  · intro h
    rw [h, nI_toInt (by omega)] at e
    split at e <;> omega
  · intro h
    subst h
    apply Int32.toInt_inj.mp
    rw [e, nI_toInt (by omega), if_pos (by omega)]
theorem ltB_r {c : Nat} (h : ltB c = true) : 97 ≤ c ∧ c < 123 := by
  unfold ltB at h
  simp only [Bool.and_eq_true, Nat.ble_eq] at h
  omega
theorem dgB_r {c : Nat} (h : dgB c = true) : 48 ≤ c ∧ c < 58 := by
  unfold dgB at h
  simp only [Bool.and_eq_true, Nat.ble_eq] at h
  omega
theorem getD_map {α β : Type} (f : α → β) (l : List α) (j : Nat) (d : α) : (l.map f).getD j (f d) = f (l.getD j d) := by
  rw [List.getD_eq_getElem?_getD, List.getD_eq_getElem?_getD, List.getElem?_map]
  cases l[j]? <;> rfl
theorem getD_mem {w : List Nat} {j : Nat} (h : j < w.length) : w.getD j 0 ∈ w := by
  rw [List.getD_eq_getElem?_getD, List.getElem?_eq_getElem h]
  exact List.getElem_mem h
theorem wAt_no {U : Tx} {s : Rdg} (hT : TxW U) (h : ltI (lkV (lkC U s)) = false) : wAt U s = [] := by
  unfold wAt
  cases hc : lkC U s with
  | none => rfl
  | some c =>
    obtain ⟨a, tc, e1, e2, e3, _⟩ := lk_some hc
    rw [e1]
    rw [hc] at h
    have h : ltI (nI c) = false := h
    rw [ltI_n _ (by rw [← e3]; exact hT.2 a)] at h
    exact wrd_e (Or.inr (by rw [e3]; exact h))
theorem wAt_yes {U : Tx} {s : Rdg} (hT : TxW U) (h : ltI (lkV (lkC U s)) = true) : ∃ a tc, lkS U s = .inr (a, tc) ∧ a < U.1 ∧ wAt U s = wrd U a ∧ wrd U a ≠ [] := by
  cases hc : lkC U s with
  | none => rw [hc] at h; exact absurd h (by decide)
  | some c =>
    obtain ⟨a, tc, e1, e2, e3, _⟩ := lk_some hc
    rw [hc] at h
    have h : ltI (nI c) = true := h
    rw [ltI_n _ (by rw [← e3]; exact hT.2 a)] at h
    exact ⟨a, tc, e1, e2, wAt_of hc e1, wrd_ne.mpr ⟨e2, by rw [e3]; exact h⟩⟩
/-- the words in their text, a blank behind each -/
def wS : List Nat := (wL.map (fun w => w ++ [32])).flatten
def wP (i : Nat) : Nat := ((wL.take i).map (fun w => w.length + 1)).sum
theorem wS_str : strB 0 = wS.map nI := by decide +kernel
theorem wS_len : (strB 0).length = 178 := by decide +kernel
theorem wS_at (j : Nat) : (strB 0).getD j 0 = nI (wS.getD j 0) := by
  rw [wS_str]; exact getD_map nI wS j 0
theorem wP_33 : wP 33 = 178 := by decide +kernel
theorem wP_ok : ∀ i, i < 33 → (∀ j, j < (wL.getD i []).length → wS.getD (wP i + j) 0 = (wL.getD i []).getD j 0) ∧ wS.getD (wP i + (wL.getD i []).length) 0 = 32 ∧ wP (i + 1) = wP i + (wL.getD i []).length + 1 ∧ wP i + (wL.getD i []).length < 178 := by decide +kernel
/-- so many letters of a word are there -/
def prW (W v : List Nat) (j : Nat) : Prop := ∀ i, i < j → i < W.length ∧ W.getD i 0 = v.getD i 0
theorem prW_s {W v : List Nat} {j : Nat} : prW W v (j + 1) ↔ prW W v j ∧ (j < W.length ∧ W.getD j 0 = v.getD j 0) := by
  constructor
  · intro h; exact ⟨fun i hi => h i (by omega), h j (by omega)⟩
  · intro h i hi
    by_cases hq : i = j
    · rw [hq]; exact h.2
    · exact h.1 i (by omega)
theorem prW_e {W v : List Nat} : (prW W v v.length ∧ v.length = W.length) ↔ W = v := by
  constructor
  · rintro ⟨h1, h2⟩
    refine List.ext_getElem h2.symm (fun i hi hi2 => ?_)
    have := (h1 i hi2).2
    rw [List.getD_eq_getElem?_getD, List.getD_eq_getElem?_getD, List.getElem?_eq_getElem hi, List.getElem?_eq_getElem hi2] at this
    exact this
  · intro h; subst h; exact ⟨fun i hi => ⟨hi, rfl⟩, rfl⟩
section S88i
variable {l : Launch} {X : Cx} {ρ : Rf} {U : Tx}
theorem t_wordHere (d : Nat) {σ : St} {s : Nat} (hρ : RF ρ) (hT : TxW U) (hB : CBy σ U) (hs : s < U.1) (hf : σ.1 316 3 = nI s) (ht : σ.1 316 4 = nI (s + (wrd U s).length)) :
    T l X (d + 4) 97 [.ref 316] 402 402 ρ σ (Rs (.int (nI (wcd (wrd U s)))) ρ σ) := by
  have u16 := hT.1
  obtain ⟨f1, -, f3⟩ := wrd_end (T := U) _ s rfl
  have f1 := f1 (by omega)
  generalize hW : wrd U s = W at *
  have main : ∀ (m i : Nat), i + m = 33 → (∀ k, k < i → W ≠ wL.getD k []) → Ev l X (d + 4) 97 14 [.ref 316, .int (nI (259 + i)), .int (nI s), .int 1, .int (nI (wP i))] [] 402 402 402 ρ σ (Rs (.int (nI (wcd W))) ρ σ) := by
    intro m
    induction m with
    | zero =>
      intro i hi hno
      have hi : i = 33 := by omega
      subst hi
      rw [wP_33]
      have hw : wcd W = 258 := by
        rcases wcd_r W with ⟨h1, h2⟩ | ⟨j, h1, h2, h3⟩
        · exact h1
        · exact absurd h3.symm (hno j h1)
      rw [hw]
      refine Ev_iload rfl rfl ?_
      refine Ev_str rfl ?_
      refine Ev_callT rfl rfl rfl (by first | decide | assumption) rfl (same_n 402) (t_length _ (q := 0) (by decide)) ?_
      rintro v18 ρ18 σ18 ⟨rfl, e18, g18⟩
      obtain rfl := e18.symm
      obtain rfl := g18.symm
      refine Ev_norm (by rw [wS_len] : _ = nI 178) ?_
      refine Ev_icmp_ge rfl (fun h21 => ?_) (fun h21 => absurd (by decide) h21)
      refine Ev_const rfl ?_
      exact Ev_ireturn rfl rfl rfl rfl ⟨rfl, rfl, rfl⟩
    | succ m ih =>
      intro i hi hno
      have i33 : i < 33 := by omega
      obtain ⟨p1, p2, p3, p4⟩ := wP_ok i i33
      have hlt := (wL_ne i i33).2
      have ih := ih (i + 1) (by omega)
      generalize hv : wL.getD i [] = v at *
      have nxt : ¬ W = v → Ev l X (d + 4) 97 14 [.ref 316, .int (nI (259 + (i + 1))), .int (nI s), .int 1, .int (nI (wP (i + 1)))] [] 402 402 402 ρ σ (Rs (.int (nI (wcd W))) ρ σ) := fun hne => ih (fun k hk => by
        by_cases hq : k = i
        · rw [hq, hv]; exact hne
        · exact hno k (by omega))
      have inner : ∀ (n j : Nat) (b : Bool), j + n = v.length → (b = true ↔ prW W v j) → Ev l X (d + 4) 97 14 [.ref 316, .int (nI (259 + i)), .int (nI (s + j)), .int (bI b), .int (nI (wP i + j))] [] 402 402 402 ρ σ (Rs (.int (nI (wcd W))) ρ σ) := by
        intro n
        induction n with
        | zero =>
          intro j b hj hb
          have hj : j = v.length := by omega
          subst hj
          have go : ¬ W = v → Ev l X (d + 4) 97 90 [.ref 316, .int (nI (259 + i)), .int (nI (s + v.length)), .int (bI b), .int (nI (wP i + v.length))] [] 402 402 402 ρ σ (Rs (.int (nI (wcd W))) ρ σ) := fun hne => by
            refine Ev_iincE rfl rfl (nI_1 (259 + i) : _ = nI (259 + (i + 1))) ?_
            refine Ev_aload rfl rfl rfl ?_
            refine Ev_getI rfl (by first | rfl | assumption) ?_
            refine Ev_norm hf ?_
            refine Ev_istore rfl ?_
            refine Ev_const rfl ?_
            refine Ev_istore rfl ?_
            refine Ev_iincE rfl rfl (show _ = nI (wP (i + 1)) by rw [p3]; exact nI_1 _) ?_
            refine Ev_goto rfl ?_
            exact nxt hne
          refine Ev_iload rfl rfl ?_
          refine Ev_str rfl ?_
          refine Ev_callT rfl rfl rfl (by first | decide | assumption) rfl (same_n 402) (t_length _ (q := 0) (by decide)) ?_
          rintro v18 ρ18 σ18 ⟨rfl, e18, g18⟩
          obtain rfl := e18.symm
          obtain rfl := g18.symm
          refine Ev_norm (by rw [wS_len] : _ = nI 178) ?_
          refine Ev_icmp_ge rfl (fun h21 => absurd h21 (nI_ge (b := 178) (by omega) (by decide))) (fun h21 => ?_)
          refine Ev_str rfl ?_
          refine Ev_iload rfl rfl ?_
          refine Ev_callT rfl rfl rfl (by first | decide | assumption) rfl (same_n 402) (t_charAt _ (q := 0) (by decide) (by rw [wS_len]; omega)) ?_
          rintro v28 ρ28 σ28 ⟨rfl, e28, g28⟩
          obtain rfl := e28.symm
          obtain rfl := g28.symm
          refine Ev_norm (by rw [wS_at, p2] : _ = nI 32) ?_
          refine Ev_const rfl ?_
          refine Ev_icmp_eq rfl (fun h33 => ?_) (fun h33 => absurd rfl h33)
          refine Ev_iload rfl rfl ?_
          refine Ev_if_eq rfl (fun h77 => ?_) (fun h77 => ?_)
          · exact go (fun z => by have := (prW_e.mpr z).1; rw [hb.mpr this] at h77; exact absurd h77 (by decide))
          · refine Ev_iload rfl rfl ?_
            refine Ev_aload rfl rfl rfl ?_
            refine Ev_getI rfl (by first | rfl | assumption) ?_
            refine Ev_norm ht ?_
            refine Ev_icmp_ne rfl (fun h85 => ?_) (fun h85 => ?_)
            · exact go (fun z => h85 (by rw [(prW_e.mpr z).2]))
            · refine Ev_iload rfl rfl ?_
              exact Ev_ireturn rfl rfl rfl rfl (by
              have hl := (nI_eq (by omega) (by omega)).mp (Decidable.not_not.mp h85)
              have hm := hb.mp (rt_of h77)
              have e : W = v := prW_e.mp ⟨hm, by omega⟩
              rw [(wcd_i i33).mpr (e.trans hv.symm)]
              exact ⟨rfl, rfl, rfl⟩)
        | succ n ihn =>
          intro j b hj hb
          have hjl : j < v.length := by omega
          have hl := hlt j hjl
          have hr := ltB_r hl
          have hc := p1 j hjl
          have no : ∀ x2, ¬ prW W v (j + 1) → x2 = nI (s + (j + 1)) → Ev l X (d + 4) 97 100 [.ref 316, .int (nI (259 + i)), .int x2, .int 0, .int (nI (wP i + j))] [] 402 402 402 ρ σ (Rs (.int (nI (wcd W))) ρ σ) := fun x2 hn hx => by
            subst hx
            refine Ev_iincE rfl rfl (nI_1 (wP i + j) : _ = nI (wP i + (j + 1))) ?_
            refine Ev_goto rfl ?_
            exact ihn (j + 1) false (by omega) ⟨(fun z => by cases z), fun z => absurd z hn⟩
          have yes : ∀ x2, prW W v (j + 1) → x2 = nI (s + (j + 1)) → Ev l X (d + 4) 97 100 [.ref 316, .int (nI (259 + i)), .int x2, .int 1, .int (nI (wP i + j))] [] 402 402 402 ρ σ (Rs (.int (nI (wcd W))) ρ σ) := fun x2 hn hx => by
            subst hx
            refine Ev_iincE rfl rfl (nI_1 (wP i + j) : _ = nI (wP i + (j + 1))) ?_
            refine Ev_goto rfl ?_
            exact ihn (j + 1) true (by omega) ⟨fun _ => hn, fun _ => rfl⟩
          refine Ev_iload rfl rfl ?_
          refine Ev_str rfl ?_
          refine Ev_callT rfl rfl rfl (by first | decide | assumption) rfl (same_n 402) (t_length _ (q := 0) (by decide)) ?_
          rintro v18 ρ18 σ18 ⟨rfl, e18, g18⟩
          obtain rfl := e18.symm
          obtain rfl := g18.symm
          refine Ev_norm (by rw [wS_len] : _ = nI 178) ?_
          refine Ev_icmp_ge rfl (fun h21 => absurd h21 (nI_ge (b := 178) (by omega) (by decide))) (fun h21 => ?_)
          refine Ev_str rfl ?_
          refine Ev_iload rfl rfl ?_
          refine Ev_callT rfl rfl rfl (by first | decide | assumption) rfl (same_n 402) (t_charAt _ (q := 0) (by decide) (by rw [wS_len]; omega)) ?_
          rintro v28 ρ28 σ28 ⟨rfl, e28, g28⟩
          obtain rfl := e28.symm
          obtain rfl := g28.symm
          refine Ev_norm (by rw [wS_at, hc] : _ = nI (v.getD j 0)) ?_
          refine Ev_const rfl ?_
          refine Ev_icmp_eq rfl (fun h33 => absurd h33 (nI_256 (m := 32) (by omega) (by decide) (by omega))) (fun h33 => ?_)
          refine Ev_iload rfl rfl ?_
          refine Ev_if_eq rfl (fun h37 => ?_) (fun h37 => ?_)
          · refine Ev_const rfl ?_
            refine Ev_istore rfl ?_
            refine Ev_iinc rfl rfl ?_
            refine Ev_goto rfl ?_
            exact no _ (fun z => by have := (prW_s.mp z).1; rw [hb.mpr this] at h37; exact absurd h37 (by decide)) (nI_1 (s + j))
          · refine Ev_iload rfl rfl ?_
            refine Ev_aload rfl rfl rfl ?_
            refine Ev_getI rfl (by first | rfl | assumption) ?_
            refine Ev_norm ht ?_
            refine Ev_icmp_ge rfl (fun h45 => ?_) (fun h45 => ?_)
            · refine Ev_const rfl ?_
              refine Ev_istore rfl ?_
              refine Ev_iinc rfl rfl ?_
              refine Ev_goto rfl ?_
              exact no _ (fun z => by
              have g := (prW_s.mp z).2.1
              have := (nI_leI (by omega) (by omega)).mp h45
              omega) (nI_1 (s + j))
            · refine Ev_aload rfl rfl rfl ?_
              refine Ev_getR rfl (by first | rfl | assumption) (hρ _ _ _ rfl) ?_
              refine Ev_iload rfl rfl ?_
              have hjW : j < W.length := Nat.lt_of_not_le (fun z => h45 (nI_le (show s + W.length ≤ s + j by omega) (by omega)))
              have h256 := hT.2 (s + j)
              refine Ev_bald rfl (by first | rfl | assumption) (vp_in_nI (n := s + j) (show s + j < 1600 by omega) (by decide)) ?_
              refine Ev_norm (by rw [nI_clamp (by omega)]; exact hB.2 _ (by omega) : _ = sb (U.2 (s + j))) ?_
              refine Ev_str rfl ?_
              refine Ev_iload rfl rfl ?_
              refine Ev_callT rfl rfl rfl (by first | decide | assumption) rfl (same_n 402) (t_charAt _ (q := 0) (by decide) (by rw [wS_len]; omega)) ?_
              rintro v58 ρ58 σ58 ⟨rfl, e58, g58⟩
              obtain rfl := e58.symm
              obtain rfl := g58.symm
              refine Ev_norm (by rw [wS_at, hc] : _ = nI (v.getD j 0)) ?_
              refine Ev_icmp_ne rfl (fun h61 => ?_) (fun h61 => ?_)
              · refine Ev_const rfl ?_
                refine Ev_istore rfl ?_
                refine Ev_iinc rfl rfl ?_
                refine Ev_goto rfl ?_
                exact no _ (fun z => by
                have g := (prW_s.mp z).2.2
                rw [(f3 j hjW).1] at g
                exact h61 ((sb_ltr _ h256 _ hr.1 hr.2).mpr g)) (nI_1 (s + j))
              · refine Ev_const rfl ?_
                refine Ev_goto rfl ?_
                refine Ev_istore rfl ?_
                refine Ev_iinc rfl rfl ?_
                refine Ev_goto rfl ?_
                exact yes _ (prW_s.mpr ⟨hb.mp (rt_of h37), hjW, by rw [(f3 j hjW).1]; exact (sb_ltr _ h256 _ hr.1 hr.2).mp (Decidable.not_not.mp h61)⟩) (nI_1 (s + j))
      have := inner v.length 0 true (Nat.zero_add _) ⟨fun _ k hk => absurd hk (Nat.not_lt_zero k), fun _ => rfl⟩
      exact this
  refine T_of rfl ?_
  refine Ev_const rfl ?_
  refine Ev_istore rfl ?_
  refine Ev_aload rfl rfl rfl ?_
  refine Ev_getI rfl (by first | rfl | assumption) ?_
  refine Ev_norm hf ?_
  refine Ev_istore rfl ?_
  refine Ev_const rfl ?_
  refine Ev_istore rfl ?_
  refine Ev_const rfl ?_
  refine Ev_istore rfl ?_
  exact main 33 0 (by decide) (fun k hk => absurd hk (Nat.not_lt_zero k))
theorem nx_skip {d : Nat} {σ0 : St} {a0 : Nat} {Q : Po} (hρ : RF ρ) (hT : TxW U) (hB : CBy σ0 U)
    (hQ : ∀ σ, CF cTt σ0 σ → (∀ j, j ≠ 3 → σ.1 316 j = σ0.1 316 j) → σ.1 316 3 = nI (skp U a0) → Ev l X (d + 5) 96 60 [.ref 316, .float 0, .float 0, .float 0] [] 402 402 402 ρ σ Q) :
    ∀ (m a : Nat) (σ : St), U.1 - a = m → a ≤ U.1 → skp U a = skp U a0 → CF cTt σ0 σ → (∀ j, j ≠ 3 → σ.1 316 j = σ0.1 316 j) → σ.1 316 3 = nI a →
    Ev l X (d + 5) 96 8 [.ref 316, .float 0, .float 0, .float 0] [] 402 402 402 ρ σ Q := by
  have h16 := hT.1
  intro m
  induction m with
  | zero =>
    intro a σ hm ha hsk hc hj hfr
    have ha2 : a = U.1 := by omega
    have e : skp U a0 = a := by rw [← hsk]; exact skp_e (by omega)
    refine Ev_aload rfl rfl rfl ?_
    refine Ev_getI rfl (by first | rfl | assumption) ?_
    refine Ev_norm hfr ?_
    refine Ev_aload rfl rfl rfl ?_
    refine Ev_getI rfl (by first | rfl | assumption) ?_
    refine Ev_norm (by rw [hj _ (by decide)]; exact hB.1 : _ = nI U.1) ?_
    refine Ev_icmp_ge rfl (fun h16 => ?_) (fun h16 => absurd (nI_le (by omega) (by omega)) h16)
    exact hQ σ hc hj (by rw [e]; exact hfr)
  | succ m ih =>
    intro a σ hm ha hsk hc hj hfr
    have h256 := hT.2 a
    have stop : ¬ (U.2 a = 10 ∨ U.2 a = 32) → Ev l X (d + 5) 96 60 [.ref 316, .float 0, .float 0, .float 0] [] 402 402 402 ρ σ Q := fun z => by
      have e : skp U a0 = a := by rw [← hsk]; exact skp_n (by omega) z
      exact hQ σ hc hj (by rw [e]; exact hfr)
    have go : U.2 a = 10 ∨ U.2 a = 32 → Ev l X (d + 5) 96 47 [.ref 316, .float 0, .float 0, .float 0] [] 402 402 402 ρ σ Q := fun z => by
      refine Ev_aload rfl rfl rfl ?_
      refine Ev_dup rfl (fun _ q => nomatch q) ?_
      refine Ev_getI rfl (by first | rfl | assumption) ?_
      refine Ev_norm hfr ?_
      refine Ev_const rfl ?_
      refine Ev_iadd rfl ?_
      refine Ev_norm (nI_1 a) ?_
      refine Ev_putI rfl (by first | rfl | assumption) ⟨rfl, rfl⟩ rfl ?_
      refine Ev_goto rfl ?_
      refine ih (a + 1) _ (by omega) (by omega) (by rw [← hsk, skp_b (by omega) z]) (hc.tr (CF.put _ _ rfl)) (fun j hj2 => ?_) ?_
      · rw [sR_0, pk_un hj2]; exact hj j hj2
      · rw [sR_0, pk_us]
    refine Ev_aload rfl rfl rfl ?_
    refine Ev_getI rfl (by first | rfl | assumption) ?_
    refine Ev_norm hfr ?_
    refine Ev_aload rfl rfl rfl ?_
    refine Ev_getI rfl (by first | rfl | assumption) ?_
    refine Ev_norm (by rw [hj _ (by decide)]; exact hB.1 : _ = nI U.1) ?_
    refine Ev_icmp_ge rfl (fun h16 => absurd h16 (nI_ge (by omega) (by omega))) (fun h16 => ?_)
    refine Ev_aload rfl rfl rfl ?_
    refine Ev_getR rfl (by first | rfl | assumption) (hρ _ _ _ rfl) ?_
    refine Ev_aload rfl rfl rfl ?_
    refine Ev_getI rfl (by first | rfl | assumption) ?_
    refine Ev_norm hfr ?_
    refine Ev_bald rfl (by first | rfl | assumption) (vp_in_nI (n := a) (show a < 1600 by omega) (by decide)) ?_
    refine Ev_norm (by rw [nI_clamp (by omega), hc.1 1 _ (cTt_f (by decide))]; exact hB.2 a (by omega) : _ = sb (U.2 a)) ?_
    refine Ev_const rfl ?_
    refine Ev_icmp_eq rfl (fun h30 => ?_) (fun h30 => ?_)
    · exact go (Or.inl ((sb_10 _ h256).mp h30))
    · refine Ev_aload rfl rfl rfl ?_
      refine Ev_getR rfl (by first | rfl | assumption) (hρ _ _ _ rfl) ?_
      refine Ev_aload rfl rfl rfl ?_
      refine Ev_getI rfl (by first | rfl | assumption) ?_
      refine Ev_norm hfr ?_
      refine Ev_bald rfl (by first | rfl | assumption) (vp_in_nI (n := a) (show a < 1600 by omega) (by decide)) ?_
      refine Ev_norm (by rw [nI_clamp (by omega), hc.1 1 _ (cTt_f (by decide))]; exact hB.2 a (by omega) : _ = sb (U.2 a)) ?_
      refine Ev_const rfl ?_
      refine Ev_icmp_ne rfl (fun h44 => ?_) (fun h44 => ?_)
      · exact stop (fun z => z.elim (fun z => h30 ((sb_10 _ h256).mpr z)) (fun z => h44 ((sb_32 _ h256).mpr z)))
      · exact go (Or.inr ((sb_32 _ h256).mp (Decidable.not_not.mp h44)))
theorem nx_lets {d s : Nat} {σ0 : St} {x1 x2 x3 : Int32} {Q : Po} (hρ : RF ρ) (hT : TxW U) (hB : CBy σ0 U) (hs : s < U.1) (hl : ltB (U.2 s) = true)
    (hQ : ∀ σ, CF cTt σ0 σ → (∀ j, j ≠ 4 → σ.1 316 j = σ0.1 316 j) → σ.1 316 4 = nI (s + (wrd U s).length) → Ev l X (d + 5) 96 194 [.ref 316, .int x1, .int x2, .int x3] [] 402 402 402 ρ σ Q) :
    ∀ (m j : Nat) (σ : St), 1 + j + m = (wrd U s).length → CF cTt σ0 σ → (∀ j, j ≠ 4 → σ.1 316 j = σ0.1 316 j) → σ.1 316 4 = nI (s + 1 + j) →
    Ev l X (d + 5) 96 155 [.ref 316, .int x1, .int x2, .int x3] [] 402 402 402 ρ σ Q := by
  have h16 := hT.1
  obtain ⟨f1, f2, f3⟩ := wrd_end (T := U) _ s rfl
  have f1 := f1 (by omega)
  intro m
  induction m with
  | zero =>
    intro j σ hm hc hj hto
    have e : s + 1 + j = s + (wrd U s).length := by omega
    rw [e] at hto
    have h256 := hT.2 (s + (wrd U s).length)
    by_cases hend : U.1 ≤ s + (wrd U s).length
    · refine Ev_aload rfl rfl rfl ?_
      refine Ev_getI rfl (by first | rfl | assumption) ?_
      refine Ev_norm hto ?_
      refine Ev_aload rfl rfl rfl ?_
      refine Ev_getI rfl (by first | rfl | assumption) ?_
      refine Ev_norm (by rw [hj _ (by decide)]; exact hB.1 : _ = nI U.1) ?_
      refine Ev_icmp_ge rfl (fun h163 => ?_) (fun h163 => absurd (nI_le hend (by omega)) h163)
      exact hQ σ hc hj hto
    · have hz := f2.resolve_left hend
      refine Ev_aload rfl rfl rfl ?_
      refine Ev_getI rfl (by first | rfl | assumption) ?_
      refine Ev_norm hto ?_
      refine Ev_aload rfl rfl rfl ?_
      refine Ev_getI rfl (by first | rfl | assumption) ?_
      refine Ev_norm (by rw [hj _ (by decide)]; exact hB.1 : _ = nI U.1) ?_
      refine Ev_icmp_ge rfl (fun h163 => absurd h163 (nI_ge (by omega) (by omega))) (fun h163 => ?_)
      refine Ev_aload rfl rfl rfl ?_
      refine Ev_getR rfl (by first | rfl | assumption) (hρ _ _ _ rfl) ?_
      refine Ev_aload rfl rfl rfl ?_
      refine Ev_getI rfl (by first | rfl | assumption) ?_
      refine Ev_norm hto ?_
      refine Ev_bald rfl (by first | rfl | assumption) (vp_in_nI (n := s + (wrd U s).length) (show s + (wrd U s).length < 1600 by omega) (by decide)) ?_
      refine Ev_norm (by rw [nI_clamp (by omega), hc.1 1 _ (cTt_f (by decide))]; exact hB.2 _ (by omega) : _ = sb (U.2 (s + (wrd U s).length))) ?_
      refine Ev_callS rfl rfl rfl rfl (same_n 402) (t_isLetter _ _) ?_
      rintro v175 ρ175 σ175 ⟨rfl, e175, g175⟩
      obtain rfl := e175.symm
      obtain rfl := g175.symm
      refine Ev_norm (by rw [ltI_sb _ h256, hz] : _ = bI false) ?_
      refine Ev_if_eq rfl (fun h178 => ?_) (fun h178 => absurd rfl h178)
      exact hQ σ hc hj hto
  | succ m ih =>
    intro j σ hm hc hj hto
    have hg := (f3 (1 + j) (by omega)).2
    rw [show s + (1 + j) = s + 1 + j by omega] at hg
    have h256 := hT.2 (s + 1 + j)
    refine Ev_aload rfl rfl rfl ?_
    refine Ev_getI rfl (by first | rfl | assumption) ?_
    refine Ev_norm hto ?_
    refine Ev_aload rfl rfl rfl ?_
    refine Ev_getI rfl (by first | rfl | assumption) ?_
    refine Ev_norm (by rw [hj _ (by decide)]; exact hB.1 : _ = nI U.1) ?_
    refine Ev_icmp_ge rfl (fun h163 => absurd h163 (nI_ge (by omega) (by omega))) (fun h163 => ?_)
    refine Ev_aload rfl rfl rfl ?_
    refine Ev_getR rfl (by first | rfl | assumption) (hρ _ _ _ rfl) ?_
    refine Ev_aload rfl rfl rfl ?_
    refine Ev_getI rfl (by first | rfl | assumption) ?_
    refine Ev_norm hto ?_
    refine Ev_bald rfl (by first | rfl | assumption) (vp_in_nI (n := s + 1 + j) (show s + 1 + j < 1600 by omega) (by decide)) ?_
    refine Ev_norm (by rw [nI_clamp (by omega), hc.1 1 _ (cTt_f (by decide))]; exact hB.2 _ (by omega) : _ = sb (U.2 (s + 1 + j))) ?_
    refine Ev_callS rfl rfl rfl rfl (same_n 402) (t_isLetter _ _) ?_
    rintro v175 ρ175 σ175 ⟨rfl, e175, g175⟩
    obtain rfl := e175.symm
    obtain rfl := g175.symm
    refine Ev_norm (by rw [ltI_sb _ h256, hg] : _ = bI true) ?_
    refine Ev_if_eq rfl (fun h178 => absurd h178 (by decide)) (fun h178 => ?_)
    refine Ev_aload rfl rfl rfl ?_
    refine Ev_dup rfl (fun _ q => nomatch q) ?_
    refine Ev_getI rfl (by first | rfl | assumption) ?_
    refine Ev_norm hto ?_
    refine Ev_const rfl ?_
    refine Ev_iadd rfl ?_
    refine Ev_norm (nI_1 (s + 1 + j)) ?_
    refine Ev_putI rfl (by first | rfl | assumption) ⟨rfl, rfl⟩ rfl ?_
    refine Ev_goto rfl ?_
    refine ih (j + 1) _ (by omega) (hc.tr (CF.put _ _ rfl)) (fun i hi => ?_) ?_
    · rw [sR_0, pk_un hi]; exact hj i hi
    · rw [sR_0, pk_us]; rfl
theorem nx_digs {d s : Nat} {σ0 : St} {x1 x2 x3 : Int32} {Q : Po} (hρ : RF ρ) (hT : TxW U) (hB : CBy σ0 U) (hs : s < U.1) (hl : dgB (U.2 s) = true)
    (hQ : ∀ σ, CF cTt σ0 σ → (∀ j, j ≠ 4 → σ.1 316 j = σ0.1 316 j) → σ.1 316 4 = nI (s + (dgs U s).length) → Ev l X (d + 5) 96 264 [.ref 316, .int x1, .int x2, .int x3] [] 402 402 402 ρ σ Q) :
    ∀ (m j : Nat) (σ : St), 1 + j + m = (dgs U s).length → CF cTt σ0 σ → (∀ j, j ≠ 4 → σ.1 316 j = σ0.1 316 j) → σ.1 316 4 = nI (s + 1 + j) →
    Ev l X (d + 5) 96 225 [.ref 316, .int x1, .int x2, .int x3] [] 402 402 402 ρ σ Q := by
  have h16 := hT.1
  obtain ⟨f1, f2, f3⟩ := dgs_end (T := U) _ s rfl
  have f1 := f1 (by omega)
  intro m
  induction m with
  | zero =>
    intro j σ hm hc hj hto
    have e : s + 1 + j = s + (dgs U s).length := by omega
    rw [e] at hto
    have h256 := hT.2 (s + (dgs U s).length)
    by_cases hend : U.1 ≤ s + (dgs U s).length
    · refine Ev_aload rfl rfl rfl ?_
      refine Ev_getI rfl (by first | rfl | assumption) ?_
      refine Ev_norm hto ?_
      refine Ev_aload rfl rfl rfl ?_
      refine Ev_getI rfl (by first | rfl | assumption) ?_
      refine Ev_norm (by rw [hj _ (by decide)]; exact hB.1 : _ = nI U.1) ?_
      refine Ev_icmp_ge rfl (fun h233 => ?_) (fun h233 => absurd (nI_le hend (by omega)) h233)
      exact hQ σ hc hj hto
    · have hz := f2.resolve_left hend
      refine Ev_aload rfl rfl rfl ?_
      refine Ev_getI rfl (by first | rfl | assumption) ?_
      refine Ev_norm hto ?_
      refine Ev_aload rfl rfl rfl ?_
      refine Ev_getI rfl (by first | rfl | assumption) ?_
      refine Ev_norm (by rw [hj _ (by decide)]; exact hB.1 : _ = nI U.1) ?_
      refine Ev_icmp_ge rfl (fun h233 => absurd h233 (nI_ge (by omega) (by omega))) (fun h233 => ?_)
      refine Ev_aload rfl rfl rfl ?_
      refine Ev_getR rfl (by first | rfl | assumption) (hρ _ _ _ rfl) ?_
      refine Ev_aload rfl rfl rfl ?_
      refine Ev_getI rfl (by first | rfl | assumption) ?_
      refine Ev_norm hto ?_
      refine Ev_bald rfl (by first | rfl | assumption) (vp_in_nI (n := s + (dgs U s).length) (show s + (dgs U s).length < 1600 by omega) (by decide)) ?_
      refine Ev_norm (by rw [nI_clamp (by omega), hc.1 1 _ (cTt_f (by decide))]; exact hB.2 _ (by omega) : _ = sb (U.2 (s + (dgs U s).length))) ?_
      refine Ev_callS rfl rfl rfl rfl (same_n 402) (t_isDigit _ _) ?_
      rintro v245 ρ245 σ245 ⟨rfl, e245, g245⟩
      obtain rfl := e245.symm
      obtain rfl := g245.symm
      refine Ev_norm (by rw [dgI_sb _ h256, hz] : _ = bI false) ?_
      refine Ev_if_eq rfl (fun h248 => ?_) (fun h248 => absurd rfl h248)
      exact hQ σ hc hj hto
  | succ m ih =>
    intro j σ hm hc hj hto
    have hg := (f3 (1 + j) (by omega)).2
    rw [show s + (1 + j) = s + 1 + j by omega] at hg
    have h256 := hT.2 (s + 1 + j)
    refine Ev_aload rfl rfl rfl ?_
    refine Ev_getI rfl (by first | rfl | assumption) ?_
    refine Ev_norm hto ?_
    refine Ev_aload rfl rfl rfl ?_
    refine Ev_getI rfl (by first | rfl | assumption) ?_
    refine Ev_norm (by rw [hj _ (by decide)]; exact hB.1 : _ = nI U.1) ?_
    refine Ev_icmp_ge rfl (fun h233 => absurd h233 (nI_ge (by omega) (by omega))) (fun h233 => ?_)
    refine Ev_aload rfl rfl rfl ?_
    refine Ev_getR rfl (by first | rfl | assumption) (hρ _ _ _ rfl) ?_
    refine Ev_aload rfl rfl rfl ?_
    refine Ev_getI rfl (by first | rfl | assumption) ?_
    refine Ev_norm hto ?_
    refine Ev_bald rfl (by first | rfl | assumption) (vp_in_nI (n := s + 1 + j) (show s + 1 + j < 1600 by omega) (by decide)) ?_
    refine Ev_norm (by rw [nI_clamp (by omega), hc.1 1 _ (cTt_f (by decide))]; exact hB.2 _ (by omega) : _ = sb (U.2 (s + 1 + j))) ?_
    refine Ev_callS rfl rfl rfl rfl (same_n 402) (t_isDigit _ _) ?_
    rintro v245 ρ245 σ245 ⟨rfl, e245, g245⟩
    obtain rfl := e245.symm
    obtain rfl := g245.symm
    refine Ev_norm (by rw [dgI_sb _ h256, hg] : _ = bI true) ?_
    refine Ev_if_eq rfl (fun h248 => absurd h248 (by decide)) (fun h248 => ?_)
    refine Ev_aload rfl rfl rfl ?_
    refine Ev_dup rfl (fun _ q => nomatch q) ?_
    refine Ev_getI rfl (by first | rfl | assumption) ?_
    refine Ev_norm hto ?_
    refine Ev_const rfl ?_
    refine Ev_iadd rfl ?_
    refine Ev_norm (nI_1 (s + 1 + j)) ?_
    refine Ev_putI rfl (by first | rfl | assumption) ⟨rfl, rfl⟩ rfl ?_
    refine Ev_goto rfl ?_
    refine ih (j + 1) _ (by omega) (hc.tr (CF.put _ _ rfl)) (fun i hi => ?_) ?_
    · rw [sR_0, pk_un hi]; exact hj i hi
    · rw [sR_0, pk_us]; rfl
theorem t_next (d : Nat) {σ : St} {a tc : Nat} (hρ : RF ρ) (hT : TxW U) (hB : CBy σ U) (ha : a ≤ U.1) (hcn : cns U (a, tc)) (hto : σ.1 316 4 = nI a) (hf : σ.1 316 6 = 0) (hp : σ.1 316 7 = -1) :
    T l X (d + 5) 96 [.ref 316] 402 402 ρ σ (fun v ρ' σ' => v = none ∧ ρ' = ρ ∧ CTe σ' U (.inr (a, tc)) ∧ CF cTt σ σ') := by
  have h16 := hT.1
  have hle := skp_le ha
  have hup := skp_up U a
  have c0 : CF cTt σ (sI σ 316 (upd (σ.1 316) 3 (nI a))) := CF.put _ _ rfl
  refine T_of rfl ?_
  refine Ev_aload rfl rfl rfl ?_
  refine Ev_aload rfl rfl rfl ?_
  refine Ev_getI rfl (by first | rfl | assumption) ?_
  refine Ev_norm hto ?_
  refine Ev_putI rfl (by first | rfl | assumption) ⟨rfl, rfl⟩ rfl ?_
  refine nx_skip (a0 := a) hρ hT (hB.cf c0 rfl (fun j => cTt_f (by decide))) (fun σ1 c1 j1 f1 => ?_) (U.1 - a) a _ rfl ha rfl (CF.rf _ _) (fun _ _ => rfl) rfl
  have c1 := c0.tr c1
  have B1 := hB.cf c1 rfl (fun j => cTt_f (by decide))
  have t1 : σ1.1 316 4 = nI a := (j1 _ (by decide)).trans hto
  have g1 : σ1.1 316 6 = 0 := (j1 _ (by decide)).trans hf
  have p1 : σ1.1 316 7 = -1 := (j1 _ (by decide)).trans hp
  clear j1
  generalize hs : skp U a = s at *
  have hv := hT.2 s
  by_cases hend : U.1 ≤ s
  · refine Ev_aload rfl rfl rfl ?_
    refine Ev_getI rfl (by first | rfl | assumption) ?_
    refine Ev_norm g1 ?_
    refine Ev_if_ne rfl (fun h64 => absurd rfl h64) (fun h64 => ?_)
    refine Ev_aload rfl rfl rfl ?_
    refine Ev_getI rfl (by first | rfl | assumption) ?_
    refine Ev_norm f1 ?_
    refine Ev_aload rfl rfl rfl ?_
    refine Ev_getI rfl (by first | rfl | assumption) ?_
    refine Ev_norm B1.1 ?_
    refine Ev_icmp_lt rfl (fun h75 => absurd h75 (nI_nlt hend (by omega))) (fun h75 => ?_)
    refine Ev_aload rfl rfl rfl ?_
    refine Ev_const rfl ?_
    refine Ev_putI rfl (by first | rfl | assumption) ⟨rfl, rfl⟩ rfl ?_
    exact Ev_return rfl rfl rfl ⟨rfl, rfl, ⟨⟨B1.1, B1.2⟩, ha, hcn, ⟨g1, p1⟩, by
    show _ = nI (skp U a)
    rw [hs]; exact f1, by
    have e : hcd U (.inr (a, tc)) = -1 := by unfold hcd; show (if _ then _ else _) = _; rw [hs, if_pos hend]
    rw [e]; rfl, fun z => by
    have z : skp U a < U.1 := z
    rw [hs] at z; omega⟩, c1.tr (CF.put _ _ rfl)⟩
  · have hlt : s < U.1 := by omega
    have fin : ∀ (σ2 : St) (x : Int32), CF cTt σ1 σ2 → (∀ j, j ≠ 4 → σ2.1 316 j = σ1.1 316 j) → σ2.1 316 4 = nI (s + tkl U s) → x = hcd U (.inr (a, tc)) → CTe (sI σ2 316 (upd (σ2.1 316) 2 x)) U (.inr (a, tc)) ∧ CF cTt σ (sI σ2 316 (upd (σ2.1 316) 2 x)) := by
      intro σ2 x c2 j2 t2 hx
      have c3 : CF cTt σ (sI σ2 316 (upd (σ2.1 316) 2 x)) := (c1.tr c2).tr (CF.put _ _ rfl)
      refine ⟨⟨hB.cf c3 rfl (fun j => cTt_f (by decide)), ha, hcn, ⟨?_, ?_⟩, ?_, ?_, fun _ => ?_⟩, c3⟩
      · rw [sR_0, pk_un (by decide), j2 _ (by decide)]; exact g1
      · rw [sR_0, pk_un (by decide), j2 _ (by decide)]; exact p1
      · show _ = nI (skp U a)
        rw [sR_0, pk_un (by decide), j2 _ (by decide), hs]; exact f1
      · rw [sR_0, pk_us]; exact hx
      · show _ = nI (skp U a + tkl U (skp U a))
        rw [sR_0, pk_un (by decide), hs]; exact t2
    have hce : hcd U (.inr (a, tc)) = bif cfl U s (tcN U a tc) then 256 else nI (tkc U s) := by unfold hcd; show (if _ then _ else _) = _; rw [hs, if_neg hend]
    have core : ∀ (x1 bf : Int32), dgI bf = Nat.beq (tcN U a tc) 2 → ltI bf = Nat.beq (tcN U a tc) 1 → Ev l X (d + 5) 96 128 [.ref 316, .int x1, .int bf, .float 0] [] 402 402 402 ρ σ1 (fun v ρ' σ' => v = none ∧ ρ' = ρ ∧ CTe σ' U (.inr (a, tc)) ∧ CF cTt σ σ') := by
      intro x1 bf hbd hbl
      have c2 : CF cTt σ1 (sI σ1 316 (upd (σ1.1 316) 4 (nI (s + 1)))) := CF.put _ _ rfl
      have B2 := B1.cf c2 rfl (fun j => cTt_f (by decide))
      have j2 : ∀ j, j ≠ 4 → (sI σ1 316 (upd (σ1.1 316) 4 (nI (s + 1)))).1 316 j = σ1.1 316 j := fun j hj => by rw [sR_0, pk_un hj]
      have t2 : (sI σ1 316 (upd (σ1.1 316) 4 (nI (s + 1)))).1 316 4 = nI (s + 1) := by rw [sR_0, pk_us]
      cases hl : ltB (U.2 s) with
      | true =>
        have hd := lt_dg _ hv hl
        have ek : tkl U s = (wrd U s).length := by unfold tkl; rw [hl]; rfl
        have ec : tkc U s = wcd (wrd U s) := by unfold tkc; rw [hl]; rfl
        have hcf : cfl U s (tcN U a tc) = Nat.beq (tcN U a tc) 2 := by unfold cfl; rw [hl, hd, Bool.and_false, Bool.false_or, Bool.and_true]
        refine Ev_aload rfl rfl rfl ?_
        refine Ev_getR rfl (by first | rfl | assumption) (hρ _ _ _ rfl) ?_
        refine Ev_aload rfl rfl rfl ?_
        refine Ev_getI rfl (by first | rfl | assumption) ?_
        refine Ev_norm f1 ?_
        refine Ev_bald rfl (by first | rfl | assumption) (vp_in_nI (n := s) (show s < 1600 by omega) (by decide)) ?_
        refine Ev_norm (by rw [nI_clamp (by omega)]; exact B1.2 s hlt : _ = sb (U.2 s)) ?_
        refine Ev_istore rfl ?_
        refine Ev_aload rfl rfl rfl ?_
        refine Ev_aload rfl rfl rfl ?_
        refine Ev_getI rfl (by first | rfl | assumption) ?_
        refine Ev_norm f1 ?_
        refine Ev_const rfl ?_
        refine Ev_iadd rfl ?_
        refine Ev_norm (nI_1 s) ?_
        refine Ev_putI rfl (by first | rfl | assumption) ⟨rfl, rfl⟩ rfl ?_
        refine Ev_iload rfl rfl ?_
        refine Ev_callS rfl rfl rfl rfl (same_n 402) (t_isLetter _ _) ?_
        rintro v149 ρ149 σ149 ⟨rfl, e149, g149⟩
        obtain rfl := e149.symm
        obtain rfl := g149.symm
        refine Ev_norm (by rw [ltI_sb _ hv, hl] : _ = bI true) ?_
        refine Ev_if_eq rfl (fun h152 => absurd h152 (by decide)) (fun h152 => ?_)
        refine nx_lets (s := s) hρ hT B2 hlt hl (fun σ3 c3 j3 t3 => ?_) ((wrd U s).length - 1) 0 _ (by have := List.length_pos_iff.mpr (wrd_ne.mpr ⟨hlt, hl⟩); omega) (CF.rf _ _) (fun _ _ => rfl) t2
        have c3 := c2.tr c3
        have j3 : ∀ j, j ≠ 4 → σ3.1 316 j = σ1.1 316 j := fun j hj => (j3 j hj).trans (j2 j hj)
        refine Ev_aload rfl rfl rfl ?_
        refine Ev_iload rfl rfl ?_
        refine Ev_callS rfl rfl rfl rfl (same_n 402) (t_isDigit _ _) ?_
        rintro v196 ρ196 σ196 ⟨rfl, e196, g196⟩
        obtain rfl := e196.symm
        obtain rfl := g196.symm
        refine Ev_if_eq rfl (fun h199 => ?_) (fun h199 => ?_)
        · refine Ev_aload rfl rfl rfl ?_
          refine Ev_callV rfl rfl rfl rfl rfl (same_n 402) (t_wordHere _ (s := s) hρ hT (B1.cf c3 rfl (fun j => cTt_f (by decide))) hlt ((j3 _ (by decide)).trans f1) t3) ?_
          rintro v209 ρ209 σ209 ⟨rfl, e209, g209⟩
          obtain rfl := e209.symm
          obtain rfl := g209.symm
          refine Ev_putI rfl (by first | rfl | assumption) ⟨rfl, rfl⟩ rfl ?_
          refine Ev_goto rfl ?_
          exact Ev_return rfl rfl rfl (by
          obtain ⟨e1, e2⟩ := fin σ3 (nI (wcd (wrd U s))) c3 j3 (by rw [ek]; exact t3) (by rw [hce, hcf, ← hbd, ff_of h199, ec]; rfl)
          exact ⟨rfl, rfl, e1, e2⟩)
        · refine Ev_const rfl ?_
          refine Ev_goto rfl ?_
          refine Ev_putI rfl (by first | rfl | assumption) ⟨rfl, rfl⟩ rfl ?_
          refine Ev_goto rfl ?_
          exact Ev_return rfl rfl rfl (by
          obtain ⟨e1, e2⟩ := fin σ3 256 c3 j3 (by rw [ek]; exact t3) (by rw [hce, hcf, ← hbd, rt_of h199]; rfl)
          exact ⟨rfl, rfl, e1, e2⟩)
      | false =>
        cases hd : dgB (U.2 s) with
        | true =>
          have ek : tkl U s = (dgs U s).length := by unfold tkl; rw [hl, hd]; rfl
          have ec : tkc U s = 257 := by unfold tkc; rw [hl, hd]; rfl
          have hcf : cfl U s (tcN U a tc) = Nat.beq (tcN U a tc) 1 := by unfold cfl; rw [hl, hd, Bool.and_false, Bool.or_false, Bool.and_true]
          refine Ev_aload rfl rfl rfl ?_
          refine Ev_getR rfl (by first | rfl | assumption) (hρ _ _ _ rfl) ?_
          refine Ev_aload rfl rfl rfl ?_
          refine Ev_getI rfl (by first | rfl | assumption) ?_
          refine Ev_norm f1 ?_
          refine Ev_bald rfl (by first | rfl | assumption) (vp_in_nI (n := s) (show s < 1600 by omega) (by decide)) ?_
          refine Ev_norm (by rw [nI_clamp (by omega)]; exact B1.2 s hlt : _ = sb (U.2 s)) ?_
          refine Ev_istore rfl ?_
          refine Ev_aload rfl rfl rfl ?_
          refine Ev_aload rfl rfl rfl ?_
          refine Ev_getI rfl (by first | rfl | assumption) ?_
          refine Ev_norm f1 ?_
          refine Ev_const rfl ?_
          refine Ev_iadd rfl ?_
          refine Ev_norm (nI_1 s) ?_
          refine Ev_putI rfl (by first | rfl | assumption) ⟨rfl, rfl⟩ rfl ?_
          refine Ev_iload rfl rfl ?_
          refine Ev_callS rfl rfl rfl rfl (same_n 402) (t_isLetter _ _) ?_
          rintro v149 ρ149 σ149 ⟨rfl, e149, g149⟩
          obtain rfl := e149.symm
          obtain rfl := g149.symm
          refine Ev_norm (by rw [ltI_sb _ hv, hl] : _ = bI false) ?_
          refine Ev_if_eq rfl (fun h152 => ?_) (fun h152 => absurd rfl h152)
          refine Ev_iload rfl rfl ?_
          refine Ev_callS rfl rfl rfl rfl (same_n 402) (t_isDigit _ _) ?_
          rintro v219 ρ219 σ219 ⟨rfl, e219, g219⟩
          obtain rfl := e219.symm
          obtain rfl := g219.symm
          refine Ev_norm (by rw [dgI_sb _ hv, hd] : _ = bI true) ?_
          refine Ev_if_eq rfl (fun h222 => absurd h222 (by decide)) (fun h222 => ?_)
          refine nx_digs (s := s) hρ hT B2 hlt hd (fun σ3 c3 j3 t3 => ?_) ((dgs U s).length - 1) 0 _ (by have : 0 < (dgs U s).length := List.length_pos_iff.mpr (by rw [dgs_s hlt hd]; exact List.cons_ne_nil _ _); omega) (CF.rf _ _) (fun _ _ => rfl) t2
          have c3 := c2.tr c3
          have j3 : ∀ j, j ≠ 4 → σ3.1 316 j = σ1.1 316 j := fun j hj => (j3 j hj).trans (j2 j hj)
          refine Ev_aload rfl rfl rfl ?_
          refine Ev_iload rfl rfl ?_
          refine Ev_callS rfl rfl rfl rfl (same_n 402) (t_isLetter _ _) ?_
          rintro v266 ρ266 σ266 ⟨rfl, e266, g266⟩
          obtain rfl := e266.symm
          obtain rfl := g266.symm
          refine Ev_if_eq rfl (fun h269 => ?_) (fun h269 => ?_)
          · refine Ev_const rfl ?_
            refine Ev_putI rfl (by first | rfl | assumption) ⟨rfl, rfl⟩ rfl ?_
            refine Ev_goto rfl ?_
            exact Ev_return rfl rfl rfl (by
            obtain ⟨e1, e2⟩ := fin σ3 257 c3 j3 (by rw [ek]; exact t3) (by rw [hce, hcf, ← hbl, ff_of h269, ec]; rfl)
            exact ⟨rfl, rfl, e1, e2⟩)
          · refine Ev_const rfl ?_
            refine Ev_goto rfl ?_
            refine Ev_putI rfl (by first | rfl | assumption) ⟨rfl, rfl⟩ rfl ?_
            refine Ev_goto rfl ?_
            exact Ev_return rfl rfl rfl (by
            obtain ⟨e1, e2⟩ := fin σ3 256 c3 j3 (by rw [ek]; exact t3) (by rw [hce, hcf, ← hbl, rt_of h269]; rfl)
            exact ⟨rfl, rfl, e1, e2⟩)
        | false =>
          have ek : tkl U s = 1 := by unfold tkl; rw [hl, hd]; rfl
          have ec : tkc U s = U.2 s := by unfold tkc; rw [hl, hd]; rfl
          have hcf : cfl U s (tcN U a tc) = false := by unfold cfl; rw [hl, hd, Bool.and_false, Bool.and_false]; rfl
          refine Ev_aload rfl rfl rfl ?_
          refine Ev_getR rfl (by first | rfl | assumption) (hρ _ _ _ rfl) ?_
          refine Ev_aload rfl rfl rfl ?_
          refine Ev_getI rfl (by first | rfl | assumption) ?_
          refine Ev_norm f1 ?_
          refine Ev_bald rfl (by first | rfl | assumption) (vp_in_nI (n := s) (show s < 1600 by omega) (by decide)) ?_
          refine Ev_norm (by rw [nI_clamp (by omega)]; exact B1.2 s hlt : _ = sb (U.2 s)) ?_
          refine Ev_istore rfl ?_
          refine Ev_aload rfl rfl rfl ?_
          refine Ev_aload rfl rfl rfl ?_
          refine Ev_getI rfl (by first | rfl | assumption) ?_
          refine Ev_norm f1 ?_
          refine Ev_const rfl ?_
          refine Ev_iadd rfl ?_
          refine Ev_norm (nI_1 s) ?_
          refine Ev_putI rfl (by first | rfl | assumption) ⟨rfl, rfl⟩ rfl ?_
          refine Ev_iload rfl rfl ?_
          refine Ev_callS rfl rfl rfl rfl (same_n 402) (t_isLetter _ _) ?_
          rintro v149 ρ149 σ149 ⟨rfl, e149, g149⟩
          obtain rfl := e149.symm
          obtain rfl := g149.symm
          refine Ev_norm (by rw [ltI_sb _ hv, hl] : _ = bI false) ?_
          refine Ev_if_eq rfl (fun h152 => ?_) (fun h152 => absurd rfl h152)
          refine Ev_iload rfl rfl ?_
          refine Ev_callS rfl rfl rfl rfl (same_n 402) (t_isDigit _ _) ?_
          rintro v219 ρ219 σ219 ⟨rfl, e219, g219⟩
          obtain rfl := e219.symm
          obtain rfl := g219.symm
          refine Ev_norm (by rw [dgI_sb _ hv, hd] : _ = bI false) ?_
          refine Ev_if_eq rfl (fun h222 => ?_) (fun h222 => absurd rfl h222)
          refine Ev_aload rfl rfl rfl ?_
          refine Ev_iload rfl rfl ?_
          refine Ev_const rfl ?_
          refine Ev_iand rfl ?_
          refine Ev_norm (sb_and _ hv) ?_
          refine Ev_putI rfl (by first | rfl | assumption) ⟨rfl, rfl⟩ rfl ?_
          exact Ev_return rfl rfl rfl (by
          obtain ⟨e1, e2⟩ := fin _ (nI (U.2 s)) c2 j2 (by rw [ek]; exact t2) (by rw [hce, hcf, ec]; rfl)
          exact ⟨rfl, rfl, e1, e2⟩)
    have e0d : dgI 0 = false := by decide
    have e0l : ltI 0 = false := by decide
    by_cases hsa : s = a
    · by_cases h0 : a = 0
      · have ht0 : Nat.beq (tcN U a tc) 2 = false ∧ Nat.beq (tcN U a tc) 1 = false := by
          unfold tcN
          rw [hs, if_pos hsa]
          have h1 : Nat.beq tc 1 = (Nat.blt 0 a && ltB (U.2 (a - 1))) := hcn.1
          have h2 : Nat.beq tc 2 = (Nat.blt 0 a && dgB (U.2 (a - 1))) := hcn.2
          rw [h1, h2, h0]; exact ⟨rfl, rfl⟩
        refine Ev_aload rfl rfl rfl ?_
        refine Ev_getI rfl (by first | rfl | assumption) ?_
        refine Ev_norm g1 ?_
        refine Ev_if_ne rfl (fun h64 => absurd rfl h64) (fun h64 => ?_)
        refine Ev_aload rfl rfl rfl ?_
        refine Ev_getI rfl (by first | rfl | assumption) ?_
        refine Ev_norm f1 ?_
        refine Ev_aload rfl rfl rfl ?_
        refine Ev_getI rfl (by first | rfl | assumption) ?_
        refine Ev_norm B1.1 ?_
        refine Ev_icmp_lt rfl (fun h75 => ?_) (fun h75 => absurd (nI_lt hlt (by omega)) h75)
        refine Ev_aload rfl rfl rfl ?_
        refine Ev_getI rfl (by first | rfl | assumption) ?_
        refine Ev_norm f1 ?_
        refine Ev_aload rfl rfl rfl ?_
        refine Ev_getI rfl (by first | rfl | assumption) ?_
        refine Ev_norm t1 ?_
        refine Ev_icmp_ne rfl (fun h92 => absurd (by rw [hsa]) h92) (fun h92 => ?_)
        refine Ev_aload rfl rfl rfl ?_
        refine Ev_getI rfl (by first | rfl | assumption) ?_
        refine Ev_norm f1 ?_
        refine Ev_if_le rfl (fun h99 => ?_) (fun h99 => absurd (show nI s ≤ 0 by rw [hsa, h0]; decide) h99)
        refine Ev_const rfl ?_
        refine Ev_istore rfl ?_
        refine Ev_iload rfl rfl ?_
        refine Ev_if_eq rfl (fun h109 => ?_) (fun h109 => absurd rfl h109)
        refine Ev_const rfl ?_
        refine Ev_istore rfl ?_
        exact core _ 0 (by rw [e0d]; exact ht0.1.symm) (by rw [e0l]; exact ht0.2.symm)
      · have hb := hT.2 (a - 1)
        have h1 : Nat.beq tc 1 = (Nat.blt 0 a && ltB (U.2 (a - 1))) := hcn.1
        have h2 : Nat.beq tc 2 = (Nat.blt 0 a && dgB (U.2 (a - 1))) := hcn.2
        rw [show Nat.blt 0 a = true from Nat.blt_eq.mpr (by omega), Bool.true_and] at h1 h2
        have e : tcN U a tc = tc := by unfold tcN; rw [hs, if_pos hsa]
        refine Ev_aload rfl rfl rfl ?_
        refine Ev_getI rfl (by first | rfl | assumption) ?_
        refine Ev_norm g1 ?_
        refine Ev_if_ne rfl (fun h64 => absurd rfl h64) (fun h64 => ?_)
        refine Ev_aload rfl rfl rfl ?_
        refine Ev_getI rfl (by first | rfl | assumption) ?_
        refine Ev_norm f1 ?_
        refine Ev_aload rfl rfl rfl ?_
        refine Ev_getI rfl (by first | rfl | assumption) ?_
        refine Ev_norm B1.1 ?_
        refine Ev_icmp_lt rfl (fun h75 => ?_) (fun h75 => absurd (nI_lt hlt (by omega)) h75)
        refine Ev_aload rfl rfl rfl ?_
        refine Ev_getI rfl (by first | rfl | assumption) ?_
        refine Ev_norm f1 ?_
        refine Ev_aload rfl rfl rfl ?_
        refine Ev_getI rfl (by first | rfl | assumption) ?_
        refine Ev_norm t1 ?_
        refine Ev_icmp_ne rfl (fun h92 => absurd (by rw [hsa]) h92) (fun h92 => ?_)
        refine Ev_aload rfl rfl rfl ?_
        refine Ev_getI rfl (by first | rfl | assumption) ?_
        refine Ev_norm f1 ?_
        refine Ev_if_le rfl (fun h99 => absurd h99 (nI_nle (by omega) (by omega))) (fun h99 => ?_)
        refine Ev_const rfl ?_
        refine Ev_goto rfl ?_
        refine Ev_istore rfl ?_
        refine Ev_iload rfl rfl ?_
        refine Ev_if_eq rfl (fun h109 => absurd h109 (by decide)) (fun h109 => ?_)
        refine Ev_aload rfl rfl rfl ?_
        refine Ev_getR rfl (by first | rfl | assumption) (hρ _ _ _ rfl) ?_
        refine Ev_aload rfl rfl rfl ?_
        refine Ev_getI rfl (by first | rfl | assumption) ?_
        refine Ev_norm f1 ?_
        refine Ev_const rfl ?_
        refine Ev_isub rfl ?_
        refine Ev_norm (show _ = nI (a - 1) by rw [hsa]; exact pk_sub (b := 1) (by omega)) ?_
        refine Ev_bald rfl (by first | rfl | assumption) (vp_in_nI (n := a - 1) (show a - 1 < 1600 by omega) (by decide)) ?_
        refine Ev_norm (by rw [nI_clamp (by omega)]; exact B1.2 _ (by omega) : _ = sb (U.2 (a - 1))) ?_
        refine Ev_goto rfl ?_
        refine Ev_istore rfl ?_
        exact core _ _ (by rw [dgI_sb _ hb, e]; exact h2.symm) (by rw [ltI_sb _ hb, e]; exact h1.symm)
    · have e : tcN U a tc = 0 := by unfold tcN; rw [hs, if_neg hsa]
      refine Ev_aload rfl rfl rfl ?_
      refine Ev_getI rfl (by first | rfl | assumption) ?_
      refine Ev_norm g1 ?_
      refine Ev_if_ne rfl (fun h64 => absurd rfl h64) (fun h64 => ?_)
      refine Ev_aload rfl rfl rfl ?_
      refine Ev_getI rfl (by first | rfl | assumption) ?_
      refine Ev_norm f1 ?_
      refine Ev_aload rfl rfl rfl ?_
      refine Ev_getI rfl (by first | rfl | assumption) ?_
      refine Ev_norm B1.1 ?_
      refine Ev_icmp_lt rfl (fun h75 => ?_) (fun h75 => absurd (nI_lt hlt (by omega)) h75)
      refine Ev_aload rfl rfl rfl ?_
      refine Ev_getI rfl (by first | rfl | assumption) ?_
      refine Ev_norm f1 ?_
      refine Ev_aload rfl rfl rfl ?_
      refine Ev_getI rfl (by first | rfl | assumption) ?_
      refine Ev_norm t1 ?_
      refine Ev_icmp_ne rfl (fun h92 => ?_) (fun h92 => absurd ((nI_eq (by omega) (by omega)).mp (Decidable.not_not.mp h92)) hsa)
      refine Ev_const rfl ?_
      refine Ev_istore rfl ?_
      refine Ev_iload rfl rfl ?_
      refine Ev_if_eq rfl (fun h109 => ?_) (fun h109 => absurd rfl h109)
      refine Ev_const rfl ?_
      refine Ev_istore rfl ?_
      exact core _ 0 (by rw [e0d, e]; rfl) (by rw [e0l, e]; rfl)
/-- from what stands here on -/
theorem t_nextH (d : Nat) {σ : St} {p : Nat × Nat} (hρ : RF ρ) (hT : TxW U) (H : CTe σ U (.inr p)) (hlt : skp U p.1 < U.1) :
    T l X (d + 5) 96 [.ref 316] 402 402 ρ σ (fun v ρ' σ' => v = none ∧ ρ' = ρ ∧ CTe σ' U (.inr (skp U p.1 + tkl U (skp U p.1), tkt U (skp U p.1))) ∧ CF cTt σ σ') := by
  obtain ⟨h1, h2, h3, ⟨h4, h5⟩, h6, h7, h8⟩ := H
  obtain ⟨e1, e2, e3⟩ := tk_end hT hlt
  exact t_next d hρ hT h1 e1 e3 (h8 hlt) h4 h5
/-- from a word on -/
theorem t_nextW (d : Nat) {σ : St} {s : Rdg} {w : List Nat} (hρ : RF ρ) (hT : TxW U) (H : CTt σ U s) (hw : wAt U s = w) (hne : w ≠ []) :
    T l X (d + 5) 96 [.ref 316] 402 402 ρ σ (fun v ρ' σ' => v = none ∧ ρ' = ρ ∧ CTe σ' U (adv w.length 1 (lkS U s)) ∧ CF cTt σ σ') := by
  cases hc : lkC U s with
  | none => rw [wAt_none hc] at hw; exact absurd hw.symm hne
  | some c =>
    obtain ⟨a, tc, e1, e2, e3, e4, -⟩ := lk_some hc
    have h1 := wAt_of hc e1
    rw [hw] at h1
    have hl := (wrd_ne.mp (by rw [← h1]; exact hne)).2
    have h2 := t_nextH (l := l) (X := X) d hρ hT (H.ex hT e1) (by rw [e4]; exact e2)
    rw [e4] at h2
    rw [e1]
    show T l X (d + 5) 96 [.ref 316] 402 402 ρ σ (fun v ρ' σ' => v = none ∧ ρ' = ρ ∧ CTe σ' U (.inr (a + w.length, 1)) ∧ CF cTt σ σ')
    have k1 : tkl U a = w.length := by unfold tkl; rw [hl, h1]; rfl
    have k2 : tkt U a = 1 := by unfold tkt; rw [hl]; rfl
    rw [k1, k2] at h2
    exact h2
/-- from a sign on -/
theorem t_nextS (d : Nat) {σ : St} {s : Rdg} {c : Nat} (hρ : RF ρ) (hT : TxW U) (H : CTt σ U s) (hs : lkC U s = some c) (hc : ltB c = false ∧ dgB c = false) :
    T l X (d + 5) 96 [.ref 316] 402 402 ρ σ (fun v ρ' σ' => v = none ∧ ρ' = ρ ∧ CTe σ' U (adv 1 0 (lkS U s)) ∧ CF cTt σ σ') := by
  obtain ⟨a, tc, e1, e2, e3, e4, -⟩ := lk_some hs
  have h2 := t_nextH (l := l) (X := X) d hρ hT (H.ex hT e1) (by rw [e4]; exact e2)
  rw [e4] at h2
  rw [e1]
  show T l X (d + 5) 96 [.ref 316] 402 402 ρ σ (fun v ρ' σ' => v = none ∧ ρ' = ρ ∧ CTe σ' U (.inr (a + 1, 0)) ∧ CF cTt σ σ')
  have k1 : tkl U a = 1 := by unfold tkl; rw [e3, hc.1, hc.2]; rfl
  have k2 : tkt U a = 0 := by unfold tkt; rw [e3, hc.1, hc.2]; rfl
  rw [k1, k2] at h2
  exact h2
end S88i
