/-! A formula read by the reference: which word stands there. -/
def wA (i : Nat) : List Nat := if i < 9 then wSg i else if i = 9 then wKnows else wReady
def wixF (w : List Nat) : Nat → Nat → Option Nat
  | 0, _ => none
  | m + 1, i => if w = wA i then some i else wixF w m (i + 1)
def wix (w : List Nat) : Option Nat := wixF w 11 0
theorem wix_y {w : List Nat} {m i : Nat} (h : w = wA i) : wixF w (m + 1) i = some i := if_pos h
theorem wix_n {w : List Nat} {m i : Nat} (h : w ≠ wA i) : wixF w (m + 1) i = wixF w m (i + 1) := if_neg h
/-- words that formulas of such a kind may name -/
def alw (k i : Nat) : Bool := decide ((k = 0 ∧ i = 0) ∨ ((k = 1 ∨ k = 3) ∧ i < 6) ∨ (k = 2 ∧ (i < 4 ∨ i = 6 ∨ i = 7)) ∨ (k = 4 ∧ (i = 0 ∨ (2 ≤ i ∧ i ≤ 5) ∨ 7 < i)))
def wiV : Option Nat → Int32
  | none => -1
  | some i => nI i
/-- the word, if it is one of these and allowed -/
def woO (k lo hi : Nat) (w : List Nat) : Option Nat := (wix w).bind (fun i => if lo ≤ i ∧ i < hi ∧ alw k i = true then some i else none)
theorem wix_lt {w : List Nat} {i : Nat} (h : wix w = some i) : i < 11 ∧ w = wA i := by
  have : ∀ m j, wixF w m j = some i → i < j + m ∧ w = wA i := by
    intro m
    induction m with
    | zero => intro j h; cases h
    | succ m ih =>
      intro j h
      by_cases hq : w = wA j
      · rw [wix_y hq] at h; cases h; exact ⟨by omega, hq⟩
      · rw [wix_n hq] at h; have := ih (j + 1) h; exact ⟨by omega, this.2⟩
  have := this 11 0 h
  exact ⟨by omega, this.2⟩
theorem wix_no {w : List Nat} (h : wix w = none) : ∀ i, i < 11 → w ≠ wA i := by
  have : ∀ m j, wixF w m j = none → ∀ i, j ≤ i → i < j + m → w ≠ wA i := by
    intro m
    induction m with
    | zero => intro j _ i h1 h2; omega
    | succ m ih =>
      intro j h i h1 h2
      by_cases hq : w = wA j
      · rw [wix_y hq] at h; cases h
      · rw [wix_n hq] at h
        by_cases hi : i = j
        · subst hi; exact hq
        · exact ih (j + 1) h i (by omega) (by omega)
  intro i hi
  exact this 11 0 h i (Nat.zero_le _) (by omega)
theorem wo_all : ∀ k, k < 5 → ∀ i, i < 11 → woO k 9 11 (wA i) = (ofR k (wA i)).map (fun t => t - 25) ∧ woO k 0 9 (wA i) = sgF k (wA i) := by decide +kernel
theorem wo_of {k : Nat} (hk : k < 5) (w : List Nat) : woO k 9 11 w = (ofR k w).map (fun t => t - 25) ∧ woO k 0 9 w = sgF k w := by
  cases h : wix w with
  | some i => obtain ⟨h1, rfl⟩ := wix_lt h; exact wo_all k hk i h1
  | none =>
    have hn := wix_no h
    have n0 : ¬ w = wSg 0 := hn 0 (by decide)
    have n1 : ¬ w = wSg 1 := hn 1 (by decide)
    have n2 : ¬ w = wSg 2 := hn 2 (by decide)
    have n3 : ¬ w = wSg 3 := hn 3 (by decide)
    have n4 : ¬ w = wSg 4 := hn 4 (by decide)
    have n5 : ¬ w = wSg 5 := hn 5 (by decide)
    have n6 : ¬ w = wSg 6 := hn 6 (by decide)
    have n7 : ¬ w = wSg 7 := hn 7 (by decide)
    have n8 : ¬ w = wSg 8 := hn 8 (by decide)
    have n9 : ¬ w = wKnows := hn 9 (by decide)
    have n10 : ¬ w = wReady := hn 10 (by decide)
    have e1 : ofR k w = none := by unfold ofR; rw [if_neg (fun z => n9 z.2), if_neg (fun z => n10 z.2)]
    have e2 : sgF k w = none := by unfold sgF; rw [if_neg n0, if_neg (fun z => n2 z.2), if_neg (fun z => n3 z.2), if_neg (fun z => n1 z.2), if_neg (fun z => n4 z.2), if_neg (fun z => n5 z.2), if_neg (fun z => n6 z.2), if_neg (fun z => n7 z.2), if_neg (fun z => n8 z.2)]
    rw [e1, e2]
    unfold woO
    rw [h]
    exact ⟨rfl, rfl⟩
theorem ck_in {i a b : Nat} (hi : i < 2 ^ 31) (ha : a < 2 ^ 31) (hb : b < 2 ^ 31) : decide ((nI a).toInt64 ≤ (nI i).toInt64 ∧ (nI i).toInt64 ≤ (nI b).toInt64) = decide (a ≤ i ∧ i ≤ b) := by
  apply decide_eq_decide.mpr
  rw [Int64.le_iff_toInt_le, Int64.le_iff_toInt_le, l_of (nI i), l_of (nI a), l_of (nI b), nI_toInt hi, nI_toInt ha, nI_toInt hb]
  omega
section S88zb
variable {l : Launch} {X : Cx} {ρ : Rf} {U : Tx}
theorem m_isAllowed (d : Nat) {σ : St} {k i : Nat} (hK : σ.1 326 50 = nI k) (hk : k < 5) (hi : i < 11) : T l X (d + 1) 179 [.ref 326, .int (nI i)] 402 402 ρ σ (Rs (.int (bI (alw k i))) ρ σ) := by
  have hk2 := nI_toInt (show k < 2 ^ 31 by omega)
  have q0 : nI i = 0 ↔ i = 0 := nI_eq (b := 0) (by omega) (by decide)
  have q6 : (6 : Int32) ≤ nI i ↔ 6 ≤ i := nI_leI (a := 6) (by decide) (by omega)
  have q4 : nI i < 4 ↔ i < 4 := by rw [Int32.lt_iff_toInt_lt, nI_toInt (by omega)]; have : (4 : Int32).toInt = 4 := rfl; omega
  have q7 : nI i ≤ 7 ↔ i ≤ 7 := nI_leI (b := 7) (by omega) (by decide)
  have i67 : decide ((6 : Int64) ≤ (nI i).toInt64 ∧ (nI i).toInt64 ≤ (7 : Int64)) = decide (6 ≤ i ∧ i ≤ 7) := ck_in (a := 6) (b := 7) (by omega) (by decide) (by decide)
  have i25 : decide ((2 : Int64) ≤ (nI i).toInt64 ∧ (nI i).toInt64 ≤ (5 : Int64)) = decide (2 ≤ i ∧ i ≤ 5) := ck_in (a := 2) (b := 5) (by omega) (by decide) (by decide)
  have yes : ((k = 0 ∧ i = 0) ∨ ((k = 1 ∨ k = 3) ∧ i < 6) ∨ (k = 2 ∧ (i < 4 ∨ i = 6 ∨ i = 7)) ∨ (k = 4 ∧ (i = 0 ∨ (2 ≤ i ∧ i ≤ 5) ∨ 7 < i))) → Rs (.int (bI (alw k i))) ρ σ (some (.int 1)) ρ σ := fun z => ⟨by unfold alw; rw [decide_eq_true z]; rfl, rfl, rfl⟩
  have no : ¬ ((k = 0 ∧ i = 0) ∨ ((k = 1 ∨ k = 3) ∧ i < 6) ∨ (k = 2 ∧ (i < 4 ∨ i = 6 ∨ i = 7)) ∨ (k = 4 ∧ (i = 0 ∨ (2 ≤ i ∧ i ≤ 5) ∨ 7 < i))) → Rs (.int (bI (alw k i))) ρ σ (some (.int 0)) ρ σ := fun z => ⟨by unfold alw; rw [decide_eq_false z]; rfl, rfl, rfl⟩
  refine T_of rfl ?_
  refine Ev_aload rfl rfl rfl ?_
  refine Ev_getI rfl (by first | rfl | assumption) ?_
  refine Ev_norm hK ?_
  refine Ev_tab rfl rfl (swP_c (fun h4_0 => ?_) (fun g4_0 => swP_c (fun h4_1 => ?_) (fun g4_1 => swP_c (fun h4_2 => ?_) (fun g4_2 => swP_c (fun h4_3 => ?_) (fun g4_3 => swP_n ?_)))))
  · refine Ev_iload rfl rfl ?_
    refine Ev_if_ne rfl (fun h37 => ?_) (fun h37 => ?_)
    · refine Ev_const rfl ?_
      exact Ev_ireturn rfl rfl rfl rfl (no (by rw [hk2] at h4_0; rw [q0] at h37; omega))
    · refine Ev_const rfl ?_
      refine Ev_goto rfl ?_
      exact Ev_ireturn rfl rfl rfl rfl (yes (by rw [hk2] at h4_0; rw [q0] at h37; omega))
  · refine Ev_iload rfl rfl ?_
    refine Ev_const rfl ?_
    refine Ev_icmp_ge rfl (fun h49 => ?_) (fun h49 => ?_)
    · refine Ev_const rfl ?_
      exact Ev_ireturn rfl rfl rfl rfl (no (by first | (rw [hk2] at h4_1; rw [q6] at h49; omega) | (rw [hk2] at h4_3; rw [q6] at h49; omega)))
    · refine Ev_const rfl ?_
      refine Ev_goto rfl ?_
      exact Ev_ireturn rfl rfl rfl rfl (yes (by first | (rw [hk2] at h4_1; rw [q6] at h49; omega) | (rw [hk2] at h4_3; rw [q6] at h49; omega)))
  · refine Ev_iload rfl rfl ?_
    refine Ev_const rfl ?_
    refine Ev_icmp_lt rfl (fun h60 => ?_) (fun h60 => ?_)
    · refine Ev_const rfl ?_
      refine Ev_goto rfl ?_
      exact Ev_ireturn rfl rfl rfl rfl (yes (by rw [hk2] at h4_2; rw [q4] at h60; omega))
    · refine Ev_iload rfl rfl ?_
      refine Ev_i2l rfl ?_
      refine Ev_constL rfl ?_
      refine Ev_constL rfl ?_
      refine Ev_callS rfl rfl rfl rfl (same_n 402) (m_isIn _ _ _ _) ?_
      rintro v71 ρ71 σ71 ⟨rfl, e71, g71⟩
      obtain rfl := e71.symm
      obtain rfl := g71.symm
      refine Ev_norm (by rw [i67] : _ = bI (decide (6 ≤ i ∧ i ≤ 7))) ?_
      refine Ev_if_eq rfl (fun h74 => ?_) (fun h74 => ?_)
      · refine Ev_const rfl ?_
        exact Ev_ireturn rfl rfl rfl rfl (no (by have := of_decide_eq_false (ff_of h74); rw [hk2] at h4_2; rw [q4] at h60; omega))
      · refine Ev_const rfl ?_
        refine Ev_goto rfl ?_
        exact Ev_ireturn rfl rfl rfl rfl (yes (by have := of_decide_eq_true (rt_of h74); rw [hk2] at h4_2; rw [q4] at h60; omega))
  · refine Ev_iload rfl rfl ?_
    refine Ev_const rfl ?_
    refine Ev_icmp_ge rfl (fun h49 => ?_) (fun h49 => ?_)
    · refine Ev_const rfl ?_
      exact Ev_ireturn rfl rfl rfl rfl (no (by first | (rw [hk2] at h4_1; rw [q6] at h49; omega) | (rw [hk2] at h4_3; rw [q6] at h49; omega)))
    · refine Ev_const rfl ?_
      refine Ev_goto rfl ?_
      exact Ev_ireturn rfl rfl rfl rfl (yes (by first | (rw [hk2] at h4_1; rw [q6] at h49; omega) | (rw [hk2] at h4_3; rw [q6] at h49; omega)))
  · refine Ev_iload rfl rfl ?_
    refine Ev_if_eq rfl (fun h84 => ?_) (fun h84 => ?_)
    · refine Ev_const rfl ?_
      refine Ev_goto rfl ?_
      exact Ev_ireturn rfl rfl (narZ true) rfl (yes (by rw [hk2] at g4_0 g4_1 g4_2 g4_3; rw [q0] at h84; omega))
    · refine Ev_iload rfl rfl ?_
      refine Ev_i2l rfl ?_
      refine Ev_constL rfl ?_
      refine Ev_constL rfl ?_
      refine Ev_callS rfl rfl rfl rfl (same_n 402) (m_isIn _ _ _ _) ?_
      rintro v95 ρ95 σ95 ⟨rfl, e95, g95⟩
      obtain rfl := e95.symm
      obtain rfl := g95.symm
      refine Ev_norm (by rw [i25] : _ = bI (decide (2 ≤ i ∧ i ≤ 5))) ?_
      refine Ev_if_ne rfl (fun h98 => ?_) (fun h98 => ?_)
      · refine Ev_const rfl ?_
        refine Ev_goto rfl ?_
        exact Ev_ireturn rfl rfl (narZ true) rfl (yes (by have := of_decide_eq_true (rt_of h98); rw [hk2] at g4_0 g4_1 g4_2 g4_3; omega))
      · refine Ev_iload rfl rfl ?_
        refine Ev_const rfl ?_
        refine Ev_icmp_le rfl (fun h104 => ?_) (fun h104 => ?_)
        · refine Ev_const rfl ?_
          exact Ev_ireturn rfl rfl (narZ false) rfl (no (by have := of_decide_eq_false (ff_of (Decidable.not_not.mp h98)); rw [hk2] at g4_0 g4_1 g4_2 g4_3; rw [q0] at h84; rw [q7] at h104; omega))
        · refine Ev_const rfl ?_
          refine Ev_goto rfl ?_
          exact Ev_ireturn rfl rfl (narZ true) rfl (yes (by rw [hk2] at g4_0 g4_1 g4_2 g4_3; rw [q7] at h104; omega))
theorem m_qWordHere (d : Nat) {σ : St} {s : Rdg} (hρ : RF ρ) (hT : TxW U) (hW : Wds σ) (H : MTt σ U s) :
    T l X (d + 2) 269 [.ref 326] 402 402 ρ σ (fun v ρ' σ' => v = some (.int (wiV (wix (mWd U s)))) ∧ ρ' = ρ ∧ MTt σ' U (skM U s) ∧ MX σ σ') := by
  have sk := skM_i U s
  refine T_of rfl ?_
  refine Ev_aload rfl rfl rfl ?_
  refine Ev_aload rfl rfl rfl ?_
  refine Ev_getR rfl (by first | rfl | assumption) (hρ _ _ _ rfl) ?_
  refine Ev_callV rfl rfl rfl rfl rfl (same_n 402) (m_isHere _ hρ hT (hW.mx (MF.rf _ _ _)) (k := 387) (w := [104, 111, 117, 114]) (by decide) H) ?_
  rintro v5 ρ5 σ5 ⟨rfl, e5, s5, k5⟩
  obtain rfl := e5.symm
  have c5 : MX σ σ5 := MF.tr (MF.rf _ _ _) k5
  refine Ev_if_eq rfl (fun h8 => ?_) (fun h8 => ?_)
  · refine Ev_aload rfl rfl rfl ?_
    refine Ev_aload rfl rfl rfl ?_
    refine Ev_getR rfl (by first | rfl | assumption) (hρ _ _ _ rfl) ?_
    refine Ev_callV rfl rfl rfl rfl rfl (same_n 402) (m_isHere _ hρ hT (hW.mx (c5)) (k := 388) (w := [100, 101, 112, 116, 104]) (by decide) s5) ?_
    rintro v18 ρ18 σ18 ⟨rfl, e18, s18, k18⟩
    obtain rfl := e18.symm
    rw [sk.1] at s18
    rw [sk.2.2.1]
    have c18 : MX σ σ18 := MF.tr (c5) k18
    refine Ev_if_eq rfl (fun h21 => ?_) (fun h21 => ?_)
    · refine Ev_aload rfl rfl rfl ?_
      refine Ev_aload rfl rfl rfl ?_
      refine Ev_getR rfl (by first | rfl | assumption) (hρ _ _ _ rfl) ?_
      refine Ev_callV rfl rfl rfl rfl rfl (same_n 402) (m_isHere _ hρ hT (hW.mx (c18)) (k := 389) (w := [119, 105, 116, 115]) (by decide) s18) ?_
      rintro v31 ρ31 σ31 ⟨rfl, e31, s31, k31⟩
      obtain rfl := e31.symm
      rw [sk.1] at s31
      rw [sk.2.2.1]
      have c31 : MX σ σ31 := MF.tr (c18) k31
      refine Ev_if_eq rfl (fun h34 => ?_) (fun h34 => ?_)
      · refine Ev_aload rfl rfl rfl ?_
        refine Ev_aload rfl rfl rfl ?_
        refine Ev_getR rfl (by first | rfl | assumption) (hρ _ _ _ rfl) ?_
        refine Ev_callV rfl rfl rfl rfl rfl (same_n 402) (m_isHere _ hρ hT (hW.mx (c31)) (k := 390) (w := [107, 110, 111, 119, 110]) (by decide) s31) ?_
        rintro v44 ρ44 σ44 ⟨rfl, e44, s44, k44⟩
        obtain rfl := e44.symm
        rw [sk.1] at s44
        rw [sk.2.2.1]
        have c44 : MX σ σ44 := MF.tr (c31) k44
        refine Ev_if_eq rfl (fun h47 => ?_) (fun h47 => ?_)
        · refine Ev_aload rfl rfl rfl ?_
          refine Ev_aload rfl rfl rfl ?_
          refine Ev_getR rfl (by first | rfl | assumption) (hρ _ _ _ rfl) ?_
          refine Ev_callV rfl rfl rfl rfl rfl (same_n 402) (m_isHere _ hρ hT (hW.mx (c44)) (k := 391) (w := [108, 117, 110, 103]) (by decide) s44) ?_
          rintro v57 ρ57 σ57 ⟨rfl, e57, s57, k57⟩
          obtain rfl := e57.symm
          rw [sk.1] at s57
          rw [sk.2.2.1]
          have c57 : MX σ σ57 := MF.tr (c44) k57
          refine Ev_if_eq rfl (fun h60 => ?_) (fun h60 => ?_)
          · refine Ev_aload rfl rfl rfl ?_
            refine Ev_aload rfl rfl rfl ?_
            refine Ev_getR rfl (by first | rfl | assumption) (hρ _ _ _ rfl) ?_
            refine Ev_callV rfl rfl rfl rfl rfl (same_n 402) (m_isHere _ hρ hT (hW.mx (c57)) (k := 392) (w := [116, 105, 100, 101]) (by decide) s57) ?_
            rintro v70 ρ70 σ70 ⟨rfl, e70, s70, k70⟩
            obtain rfl := e70.symm
            rw [sk.1] at s70
            rw [sk.2.2.1]
            have c70 : MX σ σ70 := MF.tr (c57) k70
            refine Ev_if_eq rfl (fun h73 => ?_) (fun h73 => ?_)
            · refine Ev_aload rfl rfl rfl ?_
              refine Ev_aload rfl rfl rfl ?_
              refine Ev_getR rfl (by first | rfl | assumption) (hρ _ _ _ rfl) ?_
              refine Ev_callV rfl rfl rfl rfl rfl (same_n 402) (m_isHere _ hρ hT (hW.mx (c70)) (k := 393) (w := [115, 116, 114, 101, 110, 103, 116, 104]) (by decide) s70) ?_
              rintro v83 ρ83 σ83 ⟨rfl, e83, s83, k83⟩
              obtain rfl := e83.symm
              rw [sk.1] at s83
              rw [sk.2.2.1]
              have c83 : MX σ σ83 := MF.tr (c70) k83
              refine Ev_if_eq rfl (fun h86 => ?_) (fun h86 => ?_)
              · refine Ev_aload rfl rfl rfl ?_
                refine Ev_aload rfl rfl rfl ?_
                refine Ev_getR rfl (by first | rfl | assumption) (hρ _ _ _ rfl) ?_
                refine Ev_callV rfl rfl rfl rfl rfl (same_n 402) (m_isHere _ hρ hT (hW.mx (c83)) (k := 394) (w := [114, 111, 111, 116, 101, 100]) (by decide) s83) ?_
                rintro v97 ρ97 σ97 ⟨rfl, e97, s97, k97⟩
                obtain rfl := e97.symm
                rw [sk.1] at s97
                rw [sk.2.2.1]
                have c97 : MX σ σ97 := MF.tr (c83) k97
                refine Ev_if_eq rfl (fun h100 => ?_) (fun h100 => ?_)
                · refine Ev_aload rfl rfl rfl ?_
                  refine Ev_aload rfl rfl rfl ?_
                  refine Ev_getR rfl (by first | rfl | assumption) (hρ _ _ _ rfl) ?_
                  refine Ev_callV rfl rfl rfl rfl rfl (same_n 402) (m_isHere _ hρ hT (hW.mx (c97)) (k := 395) (w := [110, 117, 109, 98, 101, 114]) (by decide) s97) ?_
                  rintro v111 ρ111 σ111 ⟨rfl, e111, s111, k111⟩
                  obtain rfl := e111.symm
                  rw [sk.1] at s111
                  rw [sk.2.2.1]
                  have c111 : MX σ σ111 := MF.tr (c97) k111
                  refine Ev_if_eq rfl (fun h114 => ?_) (fun h114 => ?_)
                  · refine Ev_aload rfl rfl rfl ?_
                    refine Ev_aload rfl rfl rfl ?_
                    refine Ev_getR rfl (by first | rfl | assumption) (hρ _ _ _ rfl) ?_
                    refine Ev_callV rfl rfl rfl rfl rfl (same_n 402) (m_isHere _ hρ hT (hW.mx (c111)) (k := 396) (w := [107, 110, 111, 119, 115]) (by decide) s111) ?_
                    rintro v125 ρ125 σ125 ⟨rfl, e125, s125, k125⟩
                    obtain rfl := e125.symm
                    rw [sk.1] at s125
                    rw [sk.2.2.1]
                    have c125 : MX σ σ125 := MF.tr (c111) k125
                    refine Ev_if_eq rfl (fun h128 => ?_) (fun h128 => ?_)
                    · refine Ev_aload rfl rfl rfl ?_
                      refine Ev_aload rfl rfl rfl ?_
                      refine Ev_getR rfl (by first | rfl | assumption) (hρ _ _ _ rfl) ?_
                      refine Ev_callV rfl rfl rfl rfl rfl (same_n 402) (m_isHere _ hρ hT (hW.mx (c125)) (k := 397) (w := [114, 101, 97, 100, 121]) (by decide) s125) ?_
                      rintro v139 ρ139 σ139 ⟨rfl, e139, s139, k139⟩
                      obtain rfl := e139.symm
                      rw [sk.1] at s139
                      rw [sk.2.2.1]
                      have c139 : MX σ σ139 := MF.tr (c125) k139
                      refine Ev_if_eq rfl (fun h142 => ?_) (fun h142 => ?_)
                      · refine Ev_const rfl ?_
                        exact Ev_ireturn rfl rfl rfl rfl ⟨by unfold wix; rw [wix_n (i := 0) (of_decide_eq_false (ff_of h8)), wix_n (i := 1) (of_decide_eq_false (ff_of h21)), wix_n (i := 2) (of_decide_eq_false (ff_of h34)), wix_n (i := 3) (of_decide_eq_false (ff_of h47)), wix_n (i := 4) (of_decide_eq_false (ff_of h60)), wix_n (i := 5) (of_decide_eq_false (ff_of h73)), wix_n (i := 6) (of_decide_eq_false (ff_of h86)), wix_n (i := 7) (of_decide_eq_false (ff_of h100)), wix_n (i := 8) (of_decide_eq_false (ff_of h114)), wix_n (i := 9) (of_decide_eq_false (ff_of h128)), wix_n (i := 10) (of_decide_eq_false (ff_of h142))]; rfl, rfl, s139, c139⟩
                      · refine Ev_const rfl ?_
                        exact Ev_ireturn rfl rfl rfl rfl ⟨by unfold wix; rw [wix_n (i := 0) (of_decide_eq_false (ff_of h8)), wix_n (i := 1) (of_decide_eq_false (ff_of h21)), wix_n (i := 2) (of_decide_eq_false (ff_of h34)), wix_n (i := 3) (of_decide_eq_false (ff_of h47)), wix_n (i := 4) (of_decide_eq_false (ff_of h60)), wix_n (i := 5) (of_decide_eq_false (ff_of h73)), wix_n (i := 6) (of_decide_eq_false (ff_of h86)), wix_n (i := 7) (of_decide_eq_false (ff_of h100)), wix_n (i := 8) (of_decide_eq_false (ff_of h114)), wix_n (i := 9) (of_decide_eq_false (ff_of h128)), wix_y (i := 10) (of_decide_eq_true (rt_of h142))]; rfl, rfl, s139, c139⟩
                    · refine Ev_const rfl ?_
                      exact Ev_ireturn rfl rfl rfl rfl ⟨by unfold wix; rw [wix_n (i := 0) (of_decide_eq_false (ff_of h8)), wix_n (i := 1) (of_decide_eq_false (ff_of h21)), wix_n (i := 2) (of_decide_eq_false (ff_of h34)), wix_n (i := 3) (of_decide_eq_false (ff_of h47)), wix_n (i := 4) (of_decide_eq_false (ff_of h60)), wix_n (i := 5) (of_decide_eq_false (ff_of h73)), wix_n (i := 6) (of_decide_eq_false (ff_of h86)), wix_n (i := 7) (of_decide_eq_false (ff_of h100)), wix_n (i := 8) (of_decide_eq_false (ff_of h114)), wix_y (i := 9) (of_decide_eq_true (rt_of h128))]; rfl, rfl, s125, c125⟩
                  · refine Ev_const rfl ?_
                    exact Ev_ireturn rfl rfl rfl rfl ⟨by unfold wix; rw [wix_n (i := 0) (of_decide_eq_false (ff_of h8)), wix_n (i := 1) (of_decide_eq_false (ff_of h21)), wix_n (i := 2) (of_decide_eq_false (ff_of h34)), wix_n (i := 3) (of_decide_eq_false (ff_of h47)), wix_n (i := 4) (of_decide_eq_false (ff_of h60)), wix_n (i := 5) (of_decide_eq_false (ff_of h73)), wix_n (i := 6) (of_decide_eq_false (ff_of h86)), wix_n (i := 7) (of_decide_eq_false (ff_of h100)), wix_y (i := 8) (of_decide_eq_true (rt_of h114))]; rfl, rfl, s111, c111⟩
                · refine Ev_const rfl ?_
                  exact Ev_ireturn rfl rfl rfl rfl ⟨by unfold wix; rw [wix_n (i := 0) (of_decide_eq_false (ff_of h8)), wix_n (i := 1) (of_decide_eq_false (ff_of h21)), wix_n (i := 2) (of_decide_eq_false (ff_of h34)), wix_n (i := 3) (of_decide_eq_false (ff_of h47)), wix_n (i := 4) (of_decide_eq_false (ff_of h60)), wix_n (i := 5) (of_decide_eq_false (ff_of h73)), wix_n (i := 6) (of_decide_eq_false (ff_of h86)), wix_y (i := 7) (of_decide_eq_true (rt_of h100))]; rfl, rfl, s97, c97⟩
              · refine Ev_const rfl ?_
                exact Ev_ireturn rfl rfl rfl rfl ⟨by unfold wix; rw [wix_n (i := 0) (of_decide_eq_false (ff_of h8)), wix_n (i := 1) (of_decide_eq_false (ff_of h21)), wix_n (i := 2) (of_decide_eq_false (ff_of h34)), wix_n (i := 3) (of_decide_eq_false (ff_of h47)), wix_n (i := 4) (of_decide_eq_false (ff_of h60)), wix_n (i := 5) (of_decide_eq_false (ff_of h73)), wix_y (i := 6) (of_decide_eq_true (rt_of h86))]; rfl, rfl, s83, c83⟩
            · refine Ev_const rfl ?_
              exact Ev_ireturn rfl rfl rfl rfl ⟨by unfold wix; rw [wix_n (i := 0) (of_decide_eq_false (ff_of h8)), wix_n (i := 1) (of_decide_eq_false (ff_of h21)), wix_n (i := 2) (of_decide_eq_false (ff_of h34)), wix_n (i := 3) (of_decide_eq_false (ff_of h47)), wix_n (i := 4) (of_decide_eq_false (ff_of h60)), wix_y (i := 5) (of_decide_eq_true (rt_of h73))]; rfl, rfl, s70, c70⟩
          · refine Ev_const rfl ?_
            exact Ev_ireturn rfl rfl rfl rfl ⟨by unfold wix; rw [wix_n (i := 0) (of_decide_eq_false (ff_of h8)), wix_n (i := 1) (of_decide_eq_false (ff_of h21)), wix_n (i := 2) (of_decide_eq_false (ff_of h34)), wix_n (i := 3) (of_decide_eq_false (ff_of h47)), wix_y (i := 4) (of_decide_eq_true (rt_of h60))]; rfl, rfl, s57, c57⟩
        · refine Ev_const rfl ?_
          exact Ev_ireturn rfl rfl rfl rfl ⟨by unfold wix; rw [wix_n (i := 0) (of_decide_eq_false (ff_of h8)), wix_n (i := 1) (of_decide_eq_false (ff_of h21)), wix_n (i := 2) (of_decide_eq_false (ff_of h34)), wix_y (i := 3) (of_decide_eq_true (rt_of h47))]; rfl, rfl, s44, c44⟩
      · refine Ev_const rfl ?_
        exact Ev_ireturn rfl rfl rfl rfl ⟨by unfold wix; rw [wix_n (i := 0) (of_decide_eq_false (ff_of h8)), wix_n (i := 1) (of_decide_eq_false (ff_of h21)), wix_y (i := 2) (of_decide_eq_true (rt_of h34))]; rfl, rfl, s31, c31⟩
    · refine Ev_const rfl ?_
      exact Ev_ireturn rfl rfl rfl rfl ⟨by unfold wix; rw [wix_n (i := 0) (of_decide_eq_false (ff_of h8)), wix_y (i := 1) (of_decide_eq_true (rt_of h21))]; rfl, rfl, s18, c18⟩
  · refine Ev_const rfl ?_
    exact Ev_ireturn rfl rfl rfl rfl ⟨by unfold wix; rw [wix_y (i := 0) (of_decide_eq_true (rt_of h8))]; rfl, rfl, s5, c5⟩
theorem m_qWordOf (d : Nat) {σ : St} {s : Rdg} {k lo hi : Nat} (hρ : RF ρ) (hT : TxW U) (hW : Wds σ) (H : MTt σ U s) (hK : σ.1 326 50 = nI k) (hk : k < 5) (hlo : lo < 12) (hhi : hi < 12) :
    T l X (d + 3) 270 [.ref 326, .int (nI lo), .int (nI hi)] 402 402 ρ σ (fun v ρ' σ' => v = some (.int (wiV (woO k lo hi (mWd U s)))) ∧ ρ' = ρ ∧ MTt σ' U (skM U s) ∧ MX σ σ') := by
  cases h : wix (mWd U s) with
  | none =>
    have e : woO k lo hi (mWd U s) = none := by unfold woO; rw [h]; rfl
    rw [e]
    refine T_of rfl ?_
    refine Ev_aload rfl rfl rfl ?_
    refine Ev_callV rfl rfl rfl rfl rfl (same_n 402) (m_qWordHere _ hρ hT hW H) ?_
    rintro v1 ρ1 σ1 ⟨rfl, e1, s1, c1⟩
    refine Ev_norm (by rw [h]; rfl : _ = (-1 : Int32)) ?_
    obtain rfl := e1.symm
    refine Ev_istore rfl ?_
    refine Ev_iload rfl rfl ?_
    refine Ev_iload rfl rfl ?_
    refine Ev_icmp_lt rfl (fun h7 => ?_) (fun h7 => absurd (by rw [Int32.lt_iff_toInt_lt, nI_toInt (by omega)]; have : (-1 : Int32).toInt = -1 := rfl; omega) h7)
    refine Ev_const rfl ?_
    exact Ev_ireturn rfl rfl rfl rfl ⟨rfl, rfl, s1, c1⟩
  | some i =>
    obtain ⟨h1, h2⟩ := wix_lt h
    have e : woO k lo hi (mWd U s) = if lo ≤ i ∧ i < hi ∧ alw k i = true then some i else none := by unfold woO; rw [h]; rfl
    rw [e]
    refine T_of rfl ?_
    refine Ev_aload rfl rfl rfl ?_
    refine Ev_callV rfl rfl rfl rfl rfl (same_n 402) (m_qWordHere _ hρ hT hW H) ?_
    rintro v1 ρ1 σ1 ⟨rfl, e1, s1, c1⟩
    refine Ev_norm (by rw [h]; rfl : _ = nI i) ?_
    obtain rfl := e1.symm
    refine Ev_istore rfl ?_
    refine Ev_iload rfl rfl ?_
    refine Ev_iload rfl rfl ?_
    refine Ev_icmp_lt rfl (fun h7 => ?_) (fun h7 => ?_)
    · refine Ev_const rfl ?_
      exact Ev_ireturn rfl rfl rfl rfl ⟨by rw [if_neg (fun z => by have : ¬ nI i < nI lo := nI_nlt z.1 (by omega); exact this h7)]; rfl, rfl, s1, c1⟩
    · refine Ev_iload rfl rfl ?_
      refine Ev_iload rfl rfl ?_
      refine Ev_icmp_ge rfl (fun h12 => ?_) (fun h12 => ?_)
      · refine Ev_const rfl ?_
        exact Ev_ireturn rfl rfl rfl rfl ⟨by rw [if_neg (fun z => by have := (nI_leI (by omega) (by omega)).mp h12; omega)]; rfl, rfl, s1, c1⟩
      · refine Ev_aload rfl rfl rfl ?_
        refine Ev_iload rfl rfl ?_
        refine Ev_callV rfl rfl rfl rfl rfl (same_n 402) (m_isAllowed _ (k := k) (by rw [c1.2.2 _ rfl]; exact hK) hk h1) ?_
        rintro v17 ρ17 σ17 ⟨rfl, e17, g17⟩
        obtain rfl := e17.symm
        obtain rfl := g17.symm
        refine Ev_if_eq rfl (fun h20 => ?_) (fun h20 => ?_)
        · refine Ev_const rfl ?_
          exact Ev_ireturn rfl rfl rfl rfl ⟨by rw [if_neg (fun z => by rw [z.2.2] at h20; exact absurd h20 (by decide))]; rfl, rfl, s1, c1⟩
        · refine Ev_iload rfl rfl ?_
          refine Ev_goto rfl ?_
          exact Ev_ireturn rfl rfl rfl rfl ⟨by
          have a1 : lo ≤ i := Nat.le_of_not_lt (fun z => h7 (nI_lt z (by omega)))
          have a2 : i < hi := Nat.lt_of_not_le (fun z => h12 (nI_le z (by omega)))
          rw [if_pos ⟨a1, a2, rt_of h20⟩]; rfl, rfl, s1, c1⟩
theorem m_qAsksWord (d : Nat) {σ : St} {s : Rdg} {i : Nat} (hρ : RF ρ) (hT : TxW U) (hW : Wds σ) (H : MTt σ U s) (hi : i < 11) :
    T l X (d + 4) 271 [.ref 326, .int (nI i)] 402 402 ρ σ (fun v ρ' σ' => v = none ∧ ρ' = ρ ∧ MTt σ' U (mAk U (wA i) s) ∧ MX σ σ') := by
  have hi2 := nI_toInt (show i < 2 ^ 31 by omega)
  refine T_of rfl ?_
  refine Ev_iload rfl rfl ?_
  refine Ev_tab rfl rfl (swP_c (fun h1_0 => ?_) (fun g1_0 => swP_c (fun h1_1 => ?_) (fun g1_1 => swP_c (fun h1_2 => ?_) (fun g1_2 => swP_c (fun h1_3 => ?_) (fun g1_3 => swP_c (fun h1_4 => ?_) (fun g1_4 => swP_c (fun h1_5 => ?_) (fun g1_5 => swP_c (fun h1_6 => ?_) (fun g1_6 => swP_c (fun h1_7 => ?_) (fun g1_7 => swP_c (fun h1_8 => ?_) (fun g1_8 => swP_c (fun h1_9 => ?_) (fun g1_9 => swP_n ?_)))))))))))
  · obtain rfl : i = 0 := by rw [hi2] at h1_0; omega
    refine Ev_aload rfl rfl rfl ?_
    refine Ev_aload rfl rfl rfl ?_
    refine Ev_getR rfl (by first | rfl | assumption) (hρ _ _ _ rfl) ?_
    refine Ev_callV rfl rfl rfl rfl rfl (same_n 402) (m_asks _ hρ hT hW (k := 387) (w := [104, 111, 117, 114]) (by decide) H) ?_
    rintro v61 ρ61 σ61 ⟨rfl, e61, s61, k61⟩
    obtain rfl := e61.symm
    refine Ev_goto rfl ?_
    exact Ev_return rfl rfl rfl ⟨rfl, rfl, s61, k61⟩
  · obtain rfl : i = 1 := by rw [hi2] at h1_1; omega
    refine Ev_aload rfl rfl rfl ?_
    refine Ev_aload rfl rfl rfl ?_
    refine Ev_getR rfl (by first | rfl | assumption) (hρ _ _ _ rfl) ?_
    refine Ev_callV rfl rfl rfl rfl rfl (same_n 402) (m_asks _ hρ hT hW (k := 388) (w := [100, 101, 112, 116, 104]) (by decide) H) ?_
    rintro v72 ρ72 σ72 ⟨rfl, e72, s72, k72⟩
    obtain rfl := e72.symm
    refine Ev_goto rfl ?_
    exact Ev_return rfl rfl rfl ⟨rfl, rfl, s72, k72⟩
  · obtain rfl : i = 2 := by rw [hi2] at h1_2; omega
    refine Ev_aload rfl rfl rfl ?_
    refine Ev_aload rfl rfl rfl ?_
    refine Ev_getR rfl (by first | rfl | assumption) (hρ _ _ _ rfl) ?_
    refine Ev_callV rfl rfl rfl rfl rfl (same_n 402) (m_asks _ hρ hT hW (k := 389) (w := [119, 105, 116, 115]) (by decide) H) ?_
    rintro v83 ρ83 σ83 ⟨rfl, e83, s83, k83⟩
    obtain rfl := e83.symm
    refine Ev_goto rfl ?_
    exact Ev_return rfl rfl rfl ⟨rfl, rfl, s83, k83⟩
  · obtain rfl : i = 3 := by rw [hi2] at h1_3; omega
    refine Ev_aload rfl rfl rfl ?_
    refine Ev_aload rfl rfl rfl ?_
    refine Ev_getR rfl (by first | rfl | assumption) (hρ _ _ _ rfl) ?_
    refine Ev_callV rfl rfl rfl rfl rfl (same_n 402) (m_asks _ hρ hT hW (k := 390) (w := [107, 110, 111, 119, 110]) (by decide) H) ?_
    rintro v94 ρ94 σ94 ⟨rfl, e94, s94, k94⟩
    obtain rfl := e94.symm
    refine Ev_goto rfl ?_
    exact Ev_return rfl rfl rfl ⟨rfl, rfl, s94, k94⟩
  · obtain rfl : i = 4 := by rw [hi2] at h1_4; omega
    refine Ev_aload rfl rfl rfl ?_
    refine Ev_aload rfl rfl rfl ?_
    refine Ev_getR rfl (by first | rfl | assumption) (hρ _ _ _ rfl) ?_
    refine Ev_callV rfl rfl rfl rfl rfl (same_n 402) (m_asks _ hρ hT hW (k := 391) (w := [108, 117, 110, 103]) (by decide) H) ?_
    rintro v105 ρ105 σ105 ⟨rfl, e105, s105, k105⟩
    obtain rfl := e105.symm
    refine Ev_goto rfl ?_
    exact Ev_return rfl rfl rfl ⟨rfl, rfl, s105, k105⟩
  · obtain rfl : i = 5 := by rw [hi2] at h1_5; omega
    refine Ev_aload rfl rfl rfl ?_
    refine Ev_aload rfl rfl rfl ?_
    refine Ev_getR rfl (by first | rfl | assumption) (hρ _ _ _ rfl) ?_
    refine Ev_callV rfl rfl rfl rfl rfl (same_n 402) (m_asks _ hρ hT hW (k := 392) (w := [116, 105, 100, 101]) (by decide) H) ?_
    rintro v116 ρ116 σ116 ⟨rfl, e116, s116, k116⟩
    obtain rfl := e116.symm
    refine Ev_goto rfl ?_
    exact Ev_return rfl rfl rfl ⟨rfl, rfl, s116, k116⟩
  · obtain rfl : i = 6 := by rw [hi2] at h1_6; omega
    refine Ev_aload rfl rfl rfl ?_
    refine Ev_aload rfl rfl rfl ?_
    refine Ev_getR rfl (by first | rfl | assumption) (hρ _ _ _ rfl) ?_
    refine Ev_callV rfl rfl rfl rfl rfl (same_n 402) (m_asks _ hρ hT hW (k := 393) (w := [115, 116, 114, 101, 110, 103, 116, 104]) (by decide) H) ?_
    rintro v127 ρ127 σ127 ⟨rfl, e127, s127, k127⟩
    obtain rfl := e127.symm
    refine Ev_goto rfl ?_
    exact Ev_return rfl rfl rfl ⟨rfl, rfl, s127, k127⟩
  · obtain rfl : i = 7 := by rw [hi2] at h1_7; omega
    refine Ev_aload rfl rfl rfl ?_
    refine Ev_aload rfl rfl rfl ?_
    refine Ev_getR rfl (by first | rfl | assumption) (hρ _ _ _ rfl) ?_
    refine Ev_callV rfl rfl rfl rfl rfl (same_n 402) (m_asks _ hρ hT hW (k := 394) (w := [114, 111, 111, 116, 101, 100]) (by decide) H) ?_
    rintro v138 ρ138 σ138 ⟨rfl, e138, s138, k138⟩
    obtain rfl := e138.symm
    refine Ev_goto rfl ?_
    exact Ev_return rfl rfl rfl ⟨rfl, rfl, s138, k138⟩
  · obtain rfl : i = 8 := by rw [hi2] at h1_8; omega
    refine Ev_aload rfl rfl rfl ?_
    refine Ev_aload rfl rfl rfl ?_
    refine Ev_getR rfl (by first | rfl | assumption) (hρ _ _ _ rfl) ?_
    refine Ev_callV rfl rfl rfl rfl rfl (same_n 402) (m_asks _ hρ hT hW (k := 395) (w := [110, 117, 109, 98, 101, 114]) (by decide) H) ?_
    rintro v149 ρ149 σ149 ⟨rfl, e149, s149, k149⟩
    obtain rfl := e149.symm
    refine Ev_goto rfl ?_
    exact Ev_return rfl rfl rfl ⟨rfl, rfl, s149, k149⟩
  · obtain rfl : i = 9 := by rw [hi2] at h1_9; omega
    refine Ev_aload rfl rfl rfl ?_
    refine Ev_aload rfl rfl rfl ?_
    refine Ev_getR rfl (by first | rfl | assumption) (hρ _ _ _ rfl) ?_
    refine Ev_callV rfl rfl rfl rfl rfl (same_n 402) (m_asks _ hρ hT hW (k := 396) (w := [107, 110, 111, 119, 115]) (by decide) H) ?_
    rintro v160 ρ160 σ160 ⟨rfl, e160, s160, k160⟩
    obtain rfl := e160.symm
    refine Ev_goto rfl ?_
    exact Ev_return rfl rfl rfl ⟨rfl, rfl, s160, k160⟩
  · obtain rfl : i = 10 := by rw [hi2] at g1_0 g1_1 g1_2 g1_3 g1_4 g1_5 g1_6 g1_7 g1_8 g1_9; omega
    refine Ev_aload rfl rfl rfl ?_
    refine Ev_aload rfl rfl rfl ?_
    refine Ev_getR rfl (by first | rfl | assumption) (hρ _ _ _ rfl) ?_
    refine Ev_callV rfl rfl rfl rfl rfl (same_n 402) (m_asks _ hρ hT hW (k := 397) (w := [114, 101, 97, 100, 121]) (by decide) H) ?_
    rintro v171 ρ171 σ171 ⟨rfl, e171, s171, k171⟩
    obtain rfl := e171.symm
    exact Ev_return rfl rfl rfl ⟨rfl, rfl, s171, k171⟩
end S88zb
