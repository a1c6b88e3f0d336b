/-! A text read: the class's numbers, own words, names. -/
theorem nval_s {D : List Nat} {j : Nat} (h : j < D.length) : nval (D.take (j + 1)) = 10 * nval (D.take j) + (D.getD j 0 - 48) := by
  unfold nval
  rw [List.take_succ, List.foldl_append, List.getD_eq_getElem?_getD, List.getElem?_eq_getElem h]
  rfl
theorem nval_lt {D : List Nat} (hd : ∀ j, j < D.length → dgB (D.getD j 0) = true) : ∀ j, j ≤ D.length → nval (D.take j) < 10 ^ j := by
  intro j
  induction j with
  | zero => intro _; exact Nat.zero_lt_one
  | succ j ih =>
    intro h
    have h1 := ih (by omega)
    have h2 := dgB_r (hd j (by omega))
    rw [nval_s (by omega), Nat.pow_succ]
    omega
theorem dAt_of {U : Tx} {s : Rdg} {a tc c : Nat} (h1 : lkC U s = some c) (h2 : lkS U s = .inr (a, tc)) : dAt U s = dgs U a := by
  unfold dAt
  rw [h1, h2]
theorem dAt_no {U : Tx} {s : Rdg} (hT : TxW U) (h : dgI (lkV (lkC U s)) = false) : dAt U s = [] := by
  unfold dAt
  cases hc : lkC U s with
  | none => rfl
  | some c =>
    obtain ⟨a, tc, e1, e2, e3, _⟩ := lk_some hc
    rw [e1]
    rw [hc] at h
    have h : dgI (nI c) = false := h
    rw [dgI_n _ (by rw [← e3]; exact hT.2 a)] at h
    exact dgs_e (Or.inr (by rw [e3]; exact h))
theorem dAt_yes {U : Tx} {s : Rdg} (hT : TxW U) (h : dgI (lkV (lkC U s)) = true) : ∃ a tc, lkS U s = .inr (a, tc) ∧ a < U.1 ∧ dAt U s = dgs U a ∧ dgs U a ≠ [] := by
  cases hc : lkC U s with
  | none => rw [hc] at h; exact absurd h (by decide)
  | some c =>
    obtain ⟨a, tc, e1, e2, e3, _⟩ := lk_some hc
    rw [hc] at h
    have h : dgI (nI c) = true := h
    rw [dgI_n _ (by rw [← e3]; exact hT.2 a)] at h
    exact ⟨a, tc, e1, e2, dAt_of hc e1, by rw [dgs_s e2 (by rw [e3]; exact h)]; exact List.cons_ne_nil _ _⟩
theorem sb_low : ∀ v, v < 256 → v < 128 → sb v = nI v := by decide +kernel
/-- the own words' text, what has ended of it -/
def ownC (k : Nat) : Nat := (wlS 1).getD k 0
def ownG : Nat → Nat
  | 0 => 0
  | k + 1 => if ownC k = 32 then k + 1 else ownG k
def ownP (f t : Nat) : List Nat := ((wlS 1).drop f).take (t - f)
def ownL : Nat → List (List Nat)
  | 0 => []
  | k + 1 => if ownC k = 32 then ownL k ++ [ownP (ownG k) k] else ownL k
theorem own_len : (strB 1).length = 144 := by decide +kernel
theorem ownL_all : ownL 144 = ownW := by decide +kernel
theorem ownC_256 : ∀ k, k < 144 → ownC k < 256 := by decide +kernel
theorem ownP_ok : ∀ k, k < 144 → ownC k = 32 → (ownP (ownG k) k).all ltB = true ∧ ownG k + (ownP (ownG k) k).length = k := by decide +kernel
theorem ownL_up {w : List Nat} : ∀ (m k : Nat), w ∈ ownL k → w ∈ ownL (k + m) := by
  intro m
  induction m with
  | zero => exact fun _ h => h
  | succ m ih =>
    intro k h
    have h1 := ih k h
    show w ∈ (if ownC (k + m) = 32 then ownL (k + m) ++ [ownP (ownG (k + m)) (k + m)] else ownL (k + m))
    split
    · exact List.mem_append_left _ h1
    · exact h1
theorem ownP_at {f t j : Nat} (h : j < (ownP f t).length) : (ownP f t).getD j 0 = ownC (f + j) := by
  unfold ownP ownC at *
  rw [List.getD_eq_getElem?_getD, List.getD_eq_getElem?_getD, List.getElem?_take_of_lt (by rw [List.length_take] at h; omega), List.getElem?_drop]
theorem n5_app (l : List Nat) (c : Nat) : n5 (l ++ [c]) = n5 l + c * 32 ^ l.length := by
  induction l with
  | nil => show c + 32 * 0 = 0 + c * 1; omega
  | cons x l ih =>
    show x + 32 * n5 (l ++ [c]) = x + 32 * n5 l + c * 32 ^ (l.length + 1)
    rw [ih, Nat.pow_succ, Nat.mul_add, ← Nat.mul_assoc c, Nat.mul_comm (c * 32 ^ l.length) 32, Nat.add_assoc]
theorem n5_low {l : List Nat} (h : ∀ c, c ∈ l → c < 32) : n5 l < 32 ^ l.length := by
  induction l with
  | nil => exact Nat.zero_lt_one
  | cons x l ih =>
    have h1 := ih (fun c hc => h c (List.mem_cons_of_mem x hc))
    have h2 := h x List.mem_cons_self
    show x + 32 * n5 l < 32 ^ (l.length + 1)
    rw [Nat.pow_succ]
    omega
theorem shl_5 : ∀ j, j < 6 → ∀ c, c < 32 → nI c <<< (nI (5 * j) &&& 31) = nI (2 ^ (5 * j) * c) := by decide +kernel
def cTn (k j : Nat) : Bool := Nat.beq k 316 && !(Nat.beq j 1)
theorem cTn_f {k j : Nat} (h : k ≠ 316) : cTn k j = false := by unfold cTn; rw [nbeq h]; rfl
theorem cTt_n {k j : Nat} (h : cTn k j = false) : cTt k j = false := by
  unfold cTn at h
  unfold cTt
  cases hk : Nat.beq k 316
  · rfl
  · rw [hk] at h
    simp only [Bool.true_and, Bool.not_eq_false'] at h
    rw [h]; rfl
section S88j
variable {l : Launch} {X : Cx} {ρ : Rf} {U : Tx}
theorem t_askNumber (d : Nat) {σ : St} {s : Rdg} {most : Nat} (hρ : RF ρ) (hT : TxW U) (hm : most < 2 ^ 31) (H : CTt σ U s) :
    T l X (d + 3) 106 [.ref 316, .int (nI most)] 400 400 ρ σ (fun v ρ' σ' => v = some (.int (nI (vNu U most s))) ∧ ρ' = ρ ∧ CTt σ' U (aNu U most s) ∧ CF cTt σ σ') := by
  have u16 := hT.1
  cases hc : dgI (lkV (lkC U s)) with
  | false =>
    have hd := dAt_no hT hc
    have hv : vNu U most s = 0 := by
      unfold vNu aNu
      rw [if_pos hd]
      cases lkS U s <;> rfl
    rw [hv]
    unfold aNu
    rw [if_pos hd]
    refine T_of rfl ?_
    refine Ev_aload rfl rfl rfl ?_
    refine Ev_callV rfl rfl rfl rfl rfl (same_n 400) (t_seesNumber _ hρ hT H) ?_
    rintro v1 ρ1 σ1 ⟨rfl, e1, s1, c1⟩
    obtain rfl := e1.symm
    refine Ev_if_ne rfl (fun h4 => absurd h4 (by rw [hc]; decide)) (fun h4 => ?_)
    refine Ev_aload rfl rfl rfl ?_
    refine Ev_const rfl ?_
    refine Ev_aload rfl rfl rfl ?_
    refine Ev_getI rfl (by first | rfl | assumption) ?_
    refine Ev_callV rfl rfl rfl rfl rfl (same_n 400) (t_fail _ (w := 1) s1 (by decide) (atV s1)) ?_
    rintro v13 ρ13 σ13 ⟨rfl, e13, s13, c13⟩
    obtain rfl := e13.symm
    refine Ev_const rfl ?_
    exact Ev_ireturn rfl rfl rfl rfl ⟨rfl, rfl, by rw [flA_P]; exact s13, c1.tr c13⟩
  | true =>
    obtain ⟨a, tc, e1, e2, e3, e4⟩ := dAt_yes hT hc
    obtain ⟨f1, f2, f3⟩ := dgs_end (T := U) _ a rfl
    have f1 := f1 (by omega)
    have hlt := nval_lt (fun j hj => by rw [(f3 j hj).1]; exact (f3 j hj).2)
    generalize hD : dgs U a = D at *
    have hne : dAt U s ≠ [] := by rw [e3]; exact e4
    -- behind the digits
    have fin : ∀ (σ1 : St) (j k : Nat), D.length = j → j ≤ 4 → CTt σ1 U (.inr (a, tc)) → CF cTt σ σ1 → Ev l X (d + 3) 106 89 [.ref 316, .int (nI most), .int (nI (nval (D.take j))), .int (nI j), .int (nI k)] [] 400 400 400 ρ σ1 (fun v ρ' σ' => v = some (.int (nI (vNu U most s))) ∧ ρ' = ρ ∧ CTt σ' U (aNu U most s) ∧ CF cTt σ σ') := by
      intro σ1 j k hj hj4 s1 c1
      have hv := hlt j (by omega)
      have h10 : (10 : Nat) ^ j ≤ 10 ^ 4 := Nat.pow_le_pow_right (by decide) hj4
      have ht : D.take j = D := List.take_of_length_le (by omega)
      rw [ht] at hv ⊢
      unfold vNu aNu
      rw [if_neg hne, e3, e1, if_neg (by omega)]
      refine Ev_iload rfl rfl ?_
      refine Ev_iload rfl rfl ?_
      refine Ev_icmp_le rfl (fun h91 => ?_) (fun h91 => ?_)
      · have hle := (nI_leI (by omega) (by omega)).mp h91
        rw [if_neg (by omega)]
        refine Ev_aload rfl rfl rfl ?_
        refine Ev_iload rfl rfl ?_
        refine Ev_const rfl ?_
        refine Ev_callV rfl rfl rfl rfl rfl (same_n 400) (t_goOn _ (k := j) (tc := 2) s1 (by show a + j ≤ U.1; omega) (by decide)) ?_
        rintro v108 ρ108 σ108 ⟨rfl, e108, s108, c108⟩
        obtain rfl := e108.symm
        refine Ev_iload rfl rfl ?_
        exact Ev_ireturn rfl rfl rfl rfl ⟨rfl, rfl, by rw [hj]; exact s108, c1.tr c108⟩
      · have hgt : most < nval D := Nat.lt_of_not_le (fun z => h91 (nI_le z (by omega)))
        rw [if_pos hgt]
        refine Ev_aload rfl rfl rfl ?_
        refine Ev_const rfl ?_
        refine Ev_aload rfl rfl rfl ?_
        refine Ev_getI rfl (by first | rfl | assumption) ?_
        refine Ev_callV rfl rfl rfl rfl rfl (same_n 400) (t_fail _ (w := 2) s1 (by decide) (atV s1)) ?_
        rintro v100 ρ100 σ100 ⟨rfl, e100, s100, c100⟩
        obtain rfl := e100.symm
        refine Ev_const rfl ?_
        exact Ev_ireturn rfl rfl rfl rfl ⟨rfl, rfl, s100, c1.tr c100⟩
    have loop : ∀ (m j : Nat) (σ1 : St), j + m = 4 → j ≤ D.length → CTt σ1 U (.inr (a, tc)) → CF cTt σ σ1 → Ev l X (d + 3) 106 28 [.ref 316, .int (nI most), .int (nI (nval (D.take j))), .int (nI j), .int (nI (a + j))] [] 400 400 400 ρ σ1 (fun v ρ' σ' => v = some (.int (nI (vNu U most s))) ∧ ρ' = ρ ∧ CTt σ' U (aNu U most s) ∧ CF cTt σ σ') := by
      intro m
      induction m with
      | zero =>
        intro j σ1 hj hjl s1 c1
        have hj : j = 4 := by omega
        subst hj
        have h256 := hT.2 (a + 4)
        refine Ev_iload rfl rfl ?_
        refine Ev_aload rfl rfl rfl ?_
        refine Ev_getI rfl (by first | rfl | assumption) ?_
        refine Ev_norm s1.1 ?_
        refine Ev_icmp_ge rfl (fun h34 => ?_) (fun h34 => ?_)
        · refine fin σ1 4 _ (by have := (nI_leI (by omega) (by omega)).mp h34; omega) (by decide) s1 c1
        · refine Ev_aload rfl rfl rfl ?_
          refine Ev_getR rfl (by first | rfl | assumption) (hρ _ _ _ rfl) ?_
          refine Ev_iload rfl rfl ?_
          have hlt4 : a + 4 < U.1 := Nat.lt_of_not_le (fun z => h34 (nI_le z (by omega)))
          refine Ev_bald rfl (by first | rfl | assumption) (vp_in_nI (n := a + 4) (show a + 4 < 1600 by omega) (by decide)) ?_
          refine Ev_norm (by rw [nI_clamp (by omega)]; exact s1.2.1 _ hlt4 : _ = sb (U.2 (a + 4))) ?_
          refine Ev_callS rfl rfl rfl rfl (same_n 400) (t_isDigit _ _) ?_
          rintro v44 ρ44 σ44 ⟨rfl, e44, g44⟩
          obtain rfl := e44.symm
          obtain rfl := g44.symm
          refine Ev_norm (by rw [dgI_sb _ h256] : _ = bI (dgB (U.2 (a + 4)))) ?_
          refine Ev_if_eq rfl (fun h47 => ?_) (fun h47 => ?_)
          · refine fin σ1 4 _ (by
            by_cases hq : 4 < D.length
            · rw [(f3 4 hq).2] at h47; exact absurd h47 (by decide)
            · omega) (by decide) s1 c1
          · refine Ev_iload rfl rfl ?_
            refine Ev_const rfl ?_
            refine Ev_icmp_ne rfl (fun h52 => absurd rfl h52) (fun h52 => ?_)
            refine Ev_aload rfl rfl rfl ?_
            refine Ev_const rfl ?_
            refine Ev_iload rfl rfl ?_
            have hl5 : 4 < D.length := by
              by_cases hq : 4 < D.length
              · exact hq
              · have e : D.length = 4 := by omega
                rw [e] at f2
                rcases f2 with z | z
                · omega
                · rw [z] at h47; exact absurd rfl h47
            refine Ev_callV rfl rfl rfl rfl rfl (same_n 400) (t_fail _ (w := 1) (k := a + 4) s1 (by decide) (fun _ _ => rfl)) ?_
            rintro v59 ρ59 σ59 ⟨rfl, e59, s59, c59⟩
            obtain rfl := e59.symm
            refine Ev_const rfl ?_
            exact Ev_ireturn rfl rfl rfl rfl (by
            unfold vNu aNu
            rw [if_neg hne, e3, e1, if_pos hl5]
            exact ⟨rfl, rfl, s59, c1.tr c59⟩)
      | succ m ih =>
        intro j σ1 hj hjl s1 c1
        have h256 := hT.2 (a + j)
        have hv := hlt j hjl
        have h10 : (10 : Nat) ^ j ≤ 10 ^ 4 := Nat.pow_le_pow_right (by decide) (by omega)
        refine Ev_iload rfl rfl ?_
        refine Ev_aload rfl rfl rfl ?_
        refine Ev_getI rfl (by first | rfl | assumption) ?_
        refine Ev_norm s1.1 ?_
        refine Ev_icmp_ge rfl (fun h34 => ?_) (fun h34 => ?_)
        · refine fin σ1 j _ (by have := (nI_leI (by omega) (by omega)).mp h34; omega) (by omega) s1 c1
        · refine Ev_aload rfl rfl rfl ?_
          refine Ev_getR rfl (by first | rfl | assumption) (hρ _ _ _ rfl) ?_
          refine Ev_iload rfl rfl ?_
          have hlt4 : a + j < U.1 := Nat.lt_of_not_le (fun z => h34 (nI_le z (by omega)))
          refine Ev_bald rfl (by first | rfl | assumption) (vp_in_nI (n := a + j) (show a + j < 1600 by omega) (by decide)) ?_
          refine Ev_norm (by rw [nI_clamp (by omega)]; exact s1.2.1 _ hlt4 : _ = sb (U.2 (a + j))) ?_
          refine Ev_callS rfl rfl rfl rfl (same_n 400) (t_isDigit _ _) ?_
          rintro v44 ρ44 σ44 ⟨rfl, e44, g44⟩
          obtain rfl := e44.symm
          obtain rfl := g44.symm
          refine Ev_norm (by rw [dgI_sb _ h256] : _ = bI (dgB (U.2 (a + j)))) ?_
          refine Ev_if_eq rfl (fun h47 => ?_) (fun h47 => ?_)
          · refine fin σ1 j _ (by
            by_cases hq : j < D.length
            · rw [(f3 j hq).2] at h47; exact absurd h47 (by decide)
            · omega) (by omega) s1 c1
          · refine Ev_iload rfl rfl ?_
            refine Ev_const rfl ?_
            refine Ev_icmp_ne rfl (fun h52 => ?_) (fun h52 => absurd (fun z => by have := (nI_eq (b := 4) (by omega) (by decide)).mp z; omega) h52)
            refine Ev_const rfl ?_
            refine Ev_iload rfl rfl ?_
            have hdg := rt_of h47
            have hjlt : j < D.length := by
              by_cases hq : j < D.length
              · exact hq
              · have e : D.length = j := by omega
                rw [e] at f2
                rcases f2 with z | z
                · omega
                · rw [z] at hdg; cases hdg
            refine Ev_imul rfl ?_
            refine Ev_norm (pk_mul 10 (nval (D.take j))) ?_
            refine Ev_aload rfl rfl rfl ?_
            refine Ev_getR rfl (by first | rfl | assumption) (hρ _ _ _ rfl) ?_
            refine Ev_iload rfl rfl ?_
            refine Ev_bald rfl (by first | rfl | assumption) (vp_in_nI (n := a + j) (show a + j < 1600 by omega) (by decide)) ?_
            refine Ev_norm (by rw [nI_clamp (by omega), s1.2.1 _ hlt4]; have := dgB_r hdg; exact sb_low _ h256 (by omega) : _ = nI (U.2 (a + j))) ?_
            refine Ev_iadd rfl ?_
            refine Ev_norm (nI_add (10 * nval (D.take j)) (U.2 (a + j))) ?_
            refine Ev_const rfl ?_
            refine Ev_isub rfl ?_
            refine Ev_norm (show _ = nI (nval (D.take (j + 1))) by
            have := dgB_r hdg
            rw [nval_s hjlt, (f3 j hjlt).1]
            refine (pk_sub (b := 48) (by omega)).trans ?_
            congr 1
            omega) ?_
            refine Ev_istore rfl ?_
            refine Ev_iincE rfl rfl (nI_1 j) ?_
            refine Ev_iincE rfl rfl (nI_1 (a + j) : _ = nI (a + (j + 1))) ?_
            refine Ev_goto rfl ?_
            exact ih (j + 1) σ1 (by omega) hjlt s1 c1
    refine T_of rfl ?_
    refine Ev_aload rfl rfl rfl ?_
    refine Ev_callV rfl rfl rfl rfl rfl (same_n 400) (t_seesNumber _ hρ hT H) ?_
    rintro v1 ρ1 σ1 ⟨rfl, e1', s1, c1⟩
    obtain rfl := e1'.symm
    rw [e1] at s1
    refine Ev_if_ne rfl (fun h4 => ?_) (fun h4 => absurd (by rw [hc]; decide) h4)
    refine Ev_const rfl ?_
    refine Ev_istore rfl ?_
    refine Ev_const rfl ?_
    refine Ev_istore rfl ?_
    refine Ev_aload rfl rfl rfl ?_
    refine Ev_getI rfl (by first | rfl | assumption) ?_
    refine Ev_norm s1.2.2.2.2.1 ?_
    refine Ev_istore rfl ?_
    exact loop 4 0 σ1 (by decide) (Nat.zero_le _) s1 c1
theorem t_isOwnWord (d : Nat) {σ : St} {a tc : Nat} (hρ : RF ρ) (hT : TxW U) (H : CTt σ U (.inr (a, tc))) :
    T l X (d + 5) 107 [.ref 316] 400 400 ρ σ (Rs (.int (bI (decide (wrd U a ∈ ownW)))) ρ σ) := by
  have loop : ∀ (m k : Nat), k + m = 144 → ¬ wrd U a ∈ ownL k → Ev l X (d + 5) 107 4 [.ref 316, .int (nI (ownG k)), .int (nI k)] [] 400 400 400 ρ σ (Rs (.int (bI (decide (wrd U a ∈ ownW)))) ρ σ) := by
    intro m
    induction m with
    | zero =>
      intro k hk hno
      have hk : k = 144 := by omega
      subst hk
      rw [ownL_all] at hno
      refine Ev_iload rfl rfl ?_
      refine Ev_str rfl ?_
      refine Ev_callT rfl rfl rfl (by first | decide | assumption) rfl (same_n 400) (t_length _ (q := 1) (by decide)) ?_
      rintro v7 ρ7 σ7 ⟨rfl, e7, g7⟩
      obtain rfl := e7.symm
      obtain rfl := g7.symm
      refine Ev_norm (by rw [own_len] : _ = nI 144) ?_
      refine Ev_icmp_ge rfl (fun h10 => ?_) (fun h10 => absurd (by decide) h10)
      refine Ev_const rfl ?_
      exact Ev_ireturn rfl rfl rfl rfl ⟨by rw [decide_eq_false hno]; rfl, rfl, rfl⟩
    | succ m ih =>
      intro k hk hno
      have h256 := ownC_256 k (by omega)
      have c32 : nI (ownC k) = 32 ↔ ownC k = 32 := nI_eq (b := 32) (by omega) (by decide)
      have eL : ownL (k + 1) = if ownC k = 32 then ownL k ++ [ownP (ownG k) k] else ownL k := rfl
      have eG : ownG (k + 1) = if ownC k = 32 then k + 1 else ownG k := rfl
      refine Ev_iload rfl rfl ?_
      refine Ev_str rfl ?_
      refine Ev_callT rfl rfl rfl (by first | decide | assumption) rfl (same_n 400) (t_length _ (q := 1) (by decide)) ?_
      rintro v7 ρ7 σ7 ⟨rfl, e7, g7⟩
      obtain rfl := e7.symm
      obtain rfl := g7.symm
      refine Ev_norm (by rw [own_len] : _ = nI 144) ?_
      refine Ev_icmp_ge rfl (fun h10 => absurd h10 (nI_ge (b := 144) (by omega) (by decide))) (fun h10 => ?_)
      refine Ev_str rfl ?_
      refine Ev_iload rfl rfl ?_
      refine Ev_callT rfl rfl rfl (by first | decide | assumption) rfl (same_n 400) (t_charAt _ (q := 1) (by decide) (by rw [own_len]; omega)) ?_
      rintro v16 ρ16 σ16 ⟨rfl, e16, g16⟩
      obtain rfl := e16.symm
      obtain rfl := g16.symm
      refine Ev_norm (wlS_at 1 k : _ = nI (ownC k)) ?_
      refine Ev_const rfl ?_
      refine Ev_icmp_ne rfl (fun h21 => ?_) (fun h21 => ?_)
      · have hz : ¬ ownC k = 32 := fun z => h21 (c32.mpr z)
        rw [if_neg hz] at eL eG
        refine Ev_iincE rfl rfl (nI_1 k) ?_
        refine Ev_goto rfl ?_
        have := ih (k + 1) (by omega) (by rw [eL]; exact hno)
        rw [eG] at this
        exact this
      · have hz := c32.mp (Decidable.not_not.mp h21)
        rw [if_pos hz] at eL eG
        obtain ⟨o1, o2⟩ := ownP_ok k (by omega) hz
        refine Ev_aload rfl rfl rfl ?_
        refine Ev_str rfl ?_
        refine Ev_iload rfl rfl ?_
        refine Ev_iload rfl rfl ?_
        refine Ev_callV rfl rfl rfl rfl rfl (same_n 400) (t_isSpelt _ (q := 1) (fr := ownG k) (to := k) (w := ownP (ownG k) k) hρ hT (by decide) (by rw [own_len]; omega) o2 (fun j hj => by rw [ownP_at hj]; exact wlS_at 1 _) (fun c hc => List.all_eq_true.mp o1 c hc) H) ?_
        rintro v29 ρ29 σ29 ⟨rfl, e29, g29⟩
        obtain rfl := e29.symm
        obtain rfl := g29.symm
        refine Ev_if_eq rfl (fun h32 => ?_) (fun h32 => ?_)
        · have hw : ¬ wrd U a = ownP (ownG k) k := of_decide_eq_false (ff_of h32)
          refine Ev_iload rfl rfl ?_
          refine Ev_const rfl ?_
          refine Ev_iadd rfl ?_
          refine Ev_norm (nI_1 k) ?_
          refine Ev_istore rfl ?_
          refine Ev_iincE rfl rfl (nI_1 k) ?_
          refine Ev_goto rfl ?_
          have := ih (k + 1) (by omega) (by rw [eL]; exact fun z => (List.mem_append.mp z).elim hno (fun z => hw (List.mem_singleton.mp z)))
          rw [eG] at this
          exact this
        · refine Ev_const rfl ?_
          exact Ev_ireturn rfl rfl rfl rfl ⟨by
          have hw := of_decide_eq_true (rt_of h32)
          have : wrd U a ∈ ownL 144 := by
            have h1 : wrd U a ∈ ownL (k + 1) := by rw [eL, hw]; exact List.mem_append_right _ List.mem_cons_self
            have := ownL_up m (k + 1) h1
            rwa [show k + 1 + m = 144 by omega] at this
          rw [ownL_all] at this
          rw [decide_eq_true this]; rfl, rfl, rfl⟩
  refine T_of rfl ?_
  refine Ev_const rfl ?_
  refine Ev_istore rfl ?_
  refine Ev_const rfl ?_
  refine Ev_istore rfl ?_
  exact loop 144 0 (by decide) (fun z => by cases z)
theorem t_askName (d : Nat) {σ : St} {s : Rdg} (hρ : RF ρ) (hT : TxW U) (H : CTt σ U s) :
    T l X (d + 6) 108 [.ref 316] 400 400 ρ σ (fun v ρ' σ' => v = some (.int (nI (n5 (vNm U s)))) ∧ ρ' = ρ ∧ CTt σ' U (aNm U s) ∧ (isOk (aNm U s) = true → σ'.1 316 4 = nI (rpos (lkS U s))) ∧ CF cTn σ σ') := by
  have u16 := hT.1
  have tn : ∀ {σ σ' : St}, CF cTt σ σ' → CF cTn σ σ' := fun h => h.wk (fun _ _ q => cTt_n q)
  have no : wAt U s = [] ∨ wAt U s ∈ ownW → ∀ σ1, CTt σ1 U (lkS U s) → CF cTt σ σ1 → Ev l X (d + 6) 108 17 [.ref 316, .float 0, .float 0, .float 0] [] 400 400 400 ρ σ1 (fun v ρ' σ' => v = some (.int (nI (n5 (vNm U s)))) ∧ ρ' = ρ ∧ CTt σ' U (aNm U s) ∧ (isOk (aNm U s) = true → σ'.1 316 4 = nI (rpos (lkS U s))) ∧ CF cTn σ σ') := by
    intro hw σ1 s1 c1
    have hv : vNm U s = [] := by
      unfold vNm aNm
      rw [if_pos hw]
      cases lkS U s <;> rfl
    rw [hv]
    unfold aNm
    rw [if_pos hw]
    refine Ev_aload rfl rfl rfl ?_
    refine Ev_const rfl ?_
    refine Ev_aload rfl rfl rfl ?_
    refine Ev_getI rfl (by first | rfl | assumption) ?_
    refine Ev_callV rfl rfl rfl rfl rfl (same_n 400) (t_fail _ (w := 1) s1 (by decide) (atV s1)) ?_
    rintro v23 ρ23 σ23 ⟨rfl, e23, s23, c23⟩
    obtain rfl := e23.symm
    refine Ev_const rfl ?_
    exact Ev_ireturn rfl rfl rfl rfl ⟨rfl, rfl, by rw [flA_P]; exact s23, fun z => by cases hq : lkS U s <;> (rw [hq] at z; cases z), tn (c1.tr c23)⟩
  cases hc : ltI (lkV (lkC U s)) with
  | false =>
    refine T_of rfl ?_
    refine Ev_aload rfl rfl rfl ?_
    refine Ev_callV rfl rfl rfl rfl rfl (same_n 400) (t_look _ hρ hT H) ?_
    rintro v1 ρ1 σ1 ⟨rfl, e1, s1, c1⟩
    obtain rfl := e1.symm
    refine Ev_callS rfl rfl rfl rfl (same_n 400) (t_isLetter _ _) ?_
    rintro v4 ρ4 σ4 ⟨rfl, e4, g4⟩
    obtain rfl := e4.symm
    obtain rfl := g4.symm
    refine Ev_if_eq rfl (fun h7 => ?_) (fun h7 => absurd (by rw [hc]; rfl) h7)
    exact no (Or.inl (wAt_no hT hc)) σ1 s1 c1
  | true =>
    obtain ⟨a, tc, e1, e2, e3, e4⟩ := wAt_yes hT hc
    obtain ⟨f1, f2, f3⟩ := wrd_end (T := U) _ a rfl
    have f1 := f1 (by omega)
    generalize hW : wrd U a = W at *
    have hl32 : ∀ j, j ≤ W.length → ∀ c, c ∈ (W.take j).map (fun c => c - 96) → c < 32 := by
      intro j hj c hc
      obtain ⟨x, hx, rfl⟩ := List.mem_map.mp hc
      obtain ⟨i, hi, rfl⟩ := List.getElem_of_mem (List.mem_of_mem_take hx)
      have := f3 i hi
      rw [List.getD_eq_getElem?_getD, List.getElem?_eq_getElem hi] at this
      have h1 := this.1
      have h2 := ltB_r this.2
      rw [← h1] at h2
      have h2 : 97 ≤ W[i] ∧ W[i] < 123 := h2
      omega
    have hlen : ∀ j, j ≤ W.length → ((W.take j).map (fun c => c - 96)).length = j := fun j hj => by rw [List.length_map, List.length_take]; omega
    by_cases how : W ∈ ownW
    · refine T_of rfl ?_
      refine Ev_aload rfl rfl rfl ?_
      refine Ev_callV rfl rfl rfl rfl rfl (same_n 400) (t_look _ hρ hT H) ?_
      rintro v1 ρ1 σ1 ⟨rfl, e1', s1, c1⟩
      obtain rfl := e1'.symm
      refine Ev_callS rfl rfl rfl rfl (same_n 400) (t_isLetter _ _) ?_
      rintro v4 ρ4 σ4 ⟨rfl, e4, g4⟩
      obtain rfl := e4.symm
      obtain rfl := g4.symm
      refine Ev_if_eq rfl (fun h7 => absurd h7 (by rw [hc]; decide)) (fun h7 => ?_)
      refine Ev_aload rfl rfl rfl ?_
      refine Ev_callV rfl rfl rfl rfl rfl (same_n 400) (t_isOwnWord _ hρ hT (by rw [e1] at s1; exact s1)) ?_
      rintro v11 ρ11 σ11 ⟨rfl, e11, g11⟩
      obtain rfl := e11.symm
      obtain rfl := g11.symm
      refine Ev_if_eq rfl (fun h14 => absurd h14 (by rw [hW, decide_eq_true how]; decide)) (fun h14 => ?_)
      exact no (Or.inr (by rw [e3]; exact how)) σ1 s1 c1
    · have hno : ¬ (wAt U s = [] ∨ wAt U s ∈ ownW) := by rw [e3]; exact fun z => z.elim e4 how
      have fin : ∀ (σ1 : St) (j : Nat) (k : Int32), W.length = j → j ≤ 6 → CTt σ1 U (.inr (a, tc)) → CF cTt σ σ1 → Ev l X (d + 6) 108 98 [.ref 316, .int (nI (n5 ((W.take j).map (fun c => c - 96)))), .int (nI j), .int k] [] 400 400 400 ρ σ1 (fun v ρ' σ' => v = some (.int (nI (n5 (vNm U s)))) ∧ ρ' = ρ ∧ CTt σ' U (aNm U s) ∧ (isOk (aNm U s) = true → σ'.1 316 4 = nI (rpos (lkS U s))) ∧ CF cTn σ σ') := by
        intro σ1 j k hj hj6 s1 c1
        have ht : W.take j = W := List.take_of_length_le (by omega)
        rw [ht]
        have ea : aNm U s = adv j 1 (.inr (a, tc)) := by unfold aNm; rw [if_neg hno, e3, if_neg (by omega), e1, hj]
        have ev : vNm U s = W.map (fun c => c - 96) := by unfold vNm; rw [ea, e3]; rfl
        rw [ev, ea, e1]
        have hs2 : CTt (sI σ1 316 (upd (σ1.1 316) 4 (nI a))) U (.inr (a, tc)) := by
          obtain ⟨g1, g2, g3, g4, g5, g6, g7, g8⟩ := s1
          exact ⟨by rw [sR_0, pk_un (by decide)]; exact g1, fun j hj => by rw [sR_1 _ _ (by decide)]; exact g2 j hj, g3, g4, by rw [sR_0, pk_un (by decide)]; exact g5, by rw [sR_0, pk_un (by decide)]; exact g6, by rw [sR_0, pk_un (by decide)]; exact g7, by rw [sR_0, pk_un (by decide)]; exact g8⟩
        refine Ev_aload rfl rfl rfl ?_
        refine Ev_aload rfl rfl rfl ?_
        refine Ev_getI rfl (by first | rfl | assumption) ?_
        refine Ev_norm s1.2.2.2.2.1 ?_
        refine Ev_putI rfl (by first | rfl | assumption) ⟨rfl, rfl⟩ rfl ?_
        refine Ev_aload rfl rfl rfl ?_
        refine Ev_iload rfl rfl ?_
        refine Ev_const rfl ?_
        refine Ev_callV rfl rfl rfl rfl rfl (same_n 400) (t_goOn _ (k := j) (tc := 1) hs2 (by show a + j ≤ U.1; omega) (by decide)) ?_
        rintro v109 ρ109 σ109 ⟨rfl, e109, s109, c109⟩
        obtain rfl := e109.symm
        refine Ev_iload rfl rfl ?_
        exact Ev_ireturn rfl rfl rfl rfl ⟨rfl, rfl, s109, fun _ => by rw [c109.1 316 4 rfl, sR_0, pk_us]; rfl, ((tn c1).tr (CF.put _ _ rfl)).tr (tn c109)⟩
      have loop : ∀ (m j : Nat) (σ1 : St), j + m = 6 → j ≤ W.length → CTt σ1 U (.inr (a, tc)) → CF cTt σ σ1 → Ev l X (d + 6) 108 37 [.ref 316, .int (nI (n5 ((W.take j).map (fun c => c - 96)))), .int (nI j), .int (nI (a + j))] [] 400 400 400 ρ σ1 (fun v ρ' σ' => v = some (.int (nI (n5 (vNm U s)))) ∧ ρ' = ρ ∧ CTt σ' U (aNm U s) ∧ (isOk (aNm U s) = true → σ'.1 316 4 = nI (rpos (lkS U s))) ∧ CF cTn σ σ') := by
        intro m
        induction m with
        | zero =>
          intro j σ1 hj hjl s1 c1
          have hj : j = 6 := by omega
          subst hj
          have h256 := hT.2 (a + 6)
          refine Ev_iload rfl rfl ?_
          refine Ev_aload rfl rfl rfl ?_
          refine Ev_getI rfl (by first | rfl | assumption) ?_
          refine Ev_norm s1.1 ?_
          refine Ev_icmp_ge rfl (fun h42 => ?_) (fun h42 => ?_)
          · refine fin σ1 6 _ (by have := (nI_leI (by omega) (by omega)).mp h42; omega) (by decide) s1 c1
          · refine Ev_aload rfl rfl rfl ?_
            refine Ev_getR rfl (by first | rfl | assumption) (hρ _ _ _ rfl) ?_
            refine Ev_iload rfl rfl ?_
            have hlt4 : a + 6 < U.1 := Nat.lt_of_not_le (fun z => h42 (nI_le z (by omega)))
            refine Ev_bald rfl (by first | rfl | assumption) (vp_in_nI (n := a + 6) (show a + 6 < 1600 by omega) (by decide)) ?_
            refine Ev_norm (by rw [nI_clamp (by omega)]; exact s1.2.1 _ hlt4 : _ = sb (U.2 (a + 6))) ?_
            refine Ev_callS rfl rfl rfl rfl (same_n 400) (t_isLetter _ _) ?_
            rintro v51 ρ51 σ51 ⟨rfl, e51, g51⟩
            obtain rfl := e51.symm
            obtain rfl := g51.symm
            refine Ev_norm (by rw [ltI_sb _ h256] : _ = bI (ltB (U.2 (a + 6)))) ?_
            refine Ev_if_eq rfl (fun h54 => ?_) (fun h54 => ?_)
            · refine fin σ1 6 _ (by
              by_cases hq : 6 < W.length
              · rw [(f3 6 hq).2] at h54; exact absurd h54 (by decide)
              · omega) (by decide) s1 c1
            · refine Ev_iload rfl rfl ?_
              refine Ev_const rfl ?_
              refine Ev_icmp_ne rfl (fun h60 => absurd rfl h60) (fun h60 => ?_)
              refine Ev_aload rfl rfl rfl ?_
              refine Ev_const rfl ?_
              refine Ev_iload rfl rfl ?_
              have hl5 : 6 < W.length := by
                by_cases hq : 6 < W.length
                · exact hq
                · have e : W.length = 6 := by omega
                  rw [e] at f2
                  rcases f2 with z | z
                  · omega
                  · rw [z] at h54; exact absurd rfl h54
              refine Ev_callV rfl rfl rfl rfl rfl (same_n 400) (t_fail _ (w := 1) (k := a + 6) s1 (by decide) (fun _ _ => rfl)) ?_
              rintro v66 ρ66 σ66 ⟨rfl, e66, s66, c66⟩
              obtain rfl := e66.symm
              refine Ev_const rfl ?_
              exact Ev_ireturn rfl rfl rfl rfl (by
              have ea : aNm U s = .inl (1, a + 6) := by unfold aNm; rw [if_neg hno, e3, if_pos hl5, e1]; rfl
              have ev : vNm U s = [] := by unfold vNm; rw [ea]; rfl
              rw [ev, ea]
              exact ⟨rfl, rfl, s66, fun z => (by cases z), tn (c1.tr c66)⟩)
        | succ m ih =>
          intro j σ1 hj hjl s1 c1
          have h256 := hT.2 (a + j)
          refine Ev_iload rfl rfl ?_
          refine Ev_aload rfl rfl rfl ?_
          refine Ev_getI rfl (by first | rfl | assumption) ?_
          refine Ev_norm s1.1 ?_
          refine Ev_icmp_ge rfl (fun h42 => ?_) (fun h42 => ?_)
          · refine fin σ1 j _ (by have := (nI_leI (by omega) (by omega)).mp h42; omega) (by omega) s1 c1
          · refine Ev_aload rfl rfl rfl ?_
            refine Ev_getR rfl (by first | rfl | assumption) (hρ _ _ _ rfl) ?_
            refine Ev_iload rfl rfl ?_
            have hlt4 : a + j < U.1 := Nat.lt_of_not_le (fun z => h42 (nI_le z (by omega)))
            refine Ev_bald rfl (by first | rfl | assumption) (vp_in_nI (n := a + j) (show a + j < 1600 by omega) (by decide)) ?_
            refine Ev_norm (by rw [nI_clamp (by omega)]; exact s1.2.1 _ hlt4 : _ = sb (U.2 (a + j))) ?_
            refine Ev_callS rfl rfl rfl rfl (same_n 400) (t_isLetter _ _) ?_
            rintro v51 ρ51 σ51 ⟨rfl, e51, g51⟩
            obtain rfl := e51.symm
            obtain rfl := g51.symm
            refine Ev_norm (by rw [ltI_sb _ h256] : _ = bI (ltB (U.2 (a + j)))) ?_
            refine Ev_if_eq rfl (fun h54 => ?_) (fun h54 => ?_)
            · refine fin σ1 j _ (by
              by_cases hq : j < W.length
              · rw [(f3 j hq).2] at h54; exact absurd h54 (by decide)
              · omega) (by omega) s1 c1
            · refine Ev_iload rfl rfl ?_
              refine Ev_const rfl ?_
              refine Ev_icmp_ne rfl (fun h60 => ?_) (fun h60 => absurd (fun z => by have := (nI_eq (b := 6) (by omega) (by decide)).mp z; omega) h60)
              have hlt := rt_of h54
              have hr := ltB_r hlt
              have hjlt : j < W.length := by
                by_cases hq : j < W.length
                · exact hq
                · have e : W.length = j := by omega
                  rw [e] at f2
                  rcases f2 with z | z
                  · omega
                  · rw [z] at hlt; cases hlt
              have hstep : n5 ((W.take (j + 1)).map (fun c => c - 96)) = n5 ((W.take j).map (fun c => c - 96)) ||| 2 ^ (5 * j) * (U.2 (a + j) - 96) := by
                have hd := (f3 j hjlt).1
                rw [List.getD_eq_getElem?_getD, List.getElem?_eq_getElem hjlt] at hd
                have hd : W[j] = U.2 (a + j) := hd
                rw [List.take_succ, List.getElem?_eq_getElem hjlt, List.map_append]
                show n5 ((W.take j).map (fun c => c - 96) ++ [W[j] - 96]) = _
                rw [n5_app, hlen j hjl, hd]
                have hb := n5_low (hl32 j hjl)
                rw [hlen j hjl, show (32 : Nat) ^ j = 2 ^ (5 * j) by rw [Nat.pow_mul]] at hb
                rw [show (32 : Nat) ^ j = 2 ^ (5 * j) by rw [Nat.pow_mul], Nat.or_comm, ← Nat.two_pow_add_eq_or_of_lt hb, Nat.mul_comm (2 ^ (5 * j)), Nat.add_comm]
              refine Ev_iload rfl rfl ?_
              refine Ev_aload rfl rfl rfl ?_
              refine Ev_getR rfl (by first | rfl | assumption) (hρ _ _ _ rfl) ?_
              refine Ev_iload rfl rfl ?_
              refine Ev_bald rfl (by first | rfl | assumption) (vp_in_nI (n := a + j) (show a + j < 1600 by omega) (by decide)) ?_
              refine Ev_norm (by rw [nI_clamp (by omega), s1.2.1 _ hlt4]; exact (sb_ltr _ h256 _ hr.1 hr.2).mpr rfl : _ = nI (U.2 (a + j))) ?_
              refine Ev_const rfl ?_
              refine Ev_isub rfl ?_
              refine Ev_norm (pk_sub (b := 97) (by omega) : _ = nI (U.2 (a + j) - 97)) ?_
              refine Ev_const rfl ?_
              refine Ev_iadd rfl ?_
              refine Ev_norm (show _ = nI (U.2 (a + j) - 96) by refine (nI_1 _).trans ?_; congr 1; omega) ?_
              refine Ev_const rfl ?_
              refine Ev_iload rfl rfl ?_
              refine Ev_imul rfl ?_
              refine Ev_norm (pk_mul 5 j) ?_
              refine Ev_ishl rfl ?_
              refine Ev_norm (shl_5 j (by omega) _ (by omega)) ?_
              refine Ev_ior rfl ?_
              refine Ev_norm (show _ = nI (n5 ((W.take (j + 1)).map (fun c => c - 96))) by rw [nI_or, hstep]) ?_
              refine Ev_istore rfl ?_
              refine Ev_iincE rfl rfl (nI_1 j) ?_
              refine Ev_iincE rfl rfl (nI_1 (a + j) : _ = nI (a + (j + 1))) ?_
              refine Ev_goto rfl ?_
              exact ih (j + 1) σ1 (by omega) hjlt s1 c1
      refine T_of rfl ?_
      refine Ev_aload rfl rfl rfl ?_
      refine Ev_callV rfl rfl rfl rfl rfl (same_n 400) (t_look _ hρ hT H) ?_
      rintro v1 ρ1 σ1 ⟨rfl, e1', s1, c1⟩
      obtain rfl := e1'.symm
      rw [e1] at s1
      refine Ev_callS rfl rfl rfl rfl (same_n 400) (t_isLetter _ _) ?_
      rintro v4 ρ4 σ4 ⟨rfl, e4, g4⟩
      obtain rfl := e4.symm
      obtain rfl := g4.symm
      refine Ev_if_eq rfl (fun h7 => absurd h7 (by rw [hc]; decide)) (fun h7 => ?_)
      refine Ev_aload rfl rfl rfl ?_
      refine Ev_callV rfl rfl rfl rfl rfl (same_n 400) (t_isOwnWord _ hρ hT s1) ?_
      rintro v11 ρ11 σ11 ⟨rfl, e11, g11⟩
      obtain rfl := e11.symm
      obtain rfl := g11.symm
      refine Ev_if_eq rfl (fun h14 => ?_) (fun h14 => absurd (by rw [hW, decide_eq_false how]; rfl) h14)
      refine Ev_const rfl ?_
      refine Ev_istore rfl ?_
      refine Ev_const rfl ?_
      refine Ev_istore rfl ?_
      refine Ev_aload rfl rfl rfl ?_
      refine Ev_getI rfl (by first | rfl | assumption) ?_
      refine Ev_norm s1.2.2.2.2.1 ?_
      refine Ev_istore rfl ?_
      exact loop 6 0 σ1 (by decide) (Nat.zero_le _) s1 c1
end S88j
