/-! A formula read: the class's sights. -/
section S88m
variable {l : Launch} {X : Cx} {ρ : Rf} {U : Tx}
theorem sg_no {k : Nat} {w : List Nat} (h : ∀ i, i < 18 → w ≠ wL.getD (1 + i) []) : sgF k w = none := by
  have h0 : ¬ w = wSg 0 := h 13 (by decide)
  have h1 : ¬ w = wSg 1 := h 0 (by decide)
  have h2 : ¬ w = wSg 2 := h 5 (by decide)
  have h3 : ¬ w = wSg 3 := h 14 (by decide)
  have h4 : ¬ w = wSg 4 := h 4 (by decide)
  have h5 : ¬ w = wSg 5 := h 8 (by decide)
  have h6 : ¬ w = wSg 6 := h 15 (by decide)
  have h7 : ¬ w = wSg 7 := h 16 (by decide)
  have h8 : ¬ w = wSg 8 := h 17 (by decide)
  unfold sgF
  rw [if_neg h0, if_neg (fun z => h2 z.2), if_neg (fun z => h3 z.2), if_neg (fun z => h1 z.2), if_neg (fun z => h4 z.2), if_neg (fun z => h5 z.2), if_neg (fun z => h6 z.2), if_neg (fun z => h7 z.2), if_neg (fun z => h8 z.2)]
theorem t_sightHere (d : Nat) {σ : St} {s : Rdg} {k : Nat} (hρ : RF ρ) (hT : TxW U) (hk5 : k < 5) (H : CTt σ U s) (hk : σ.1 318 2 = nI k) :
    T l X d 44 [.ref 318] 402 402 ρ σ (Rs (.int (sgV (sgF k (wAt U s)))) ρ σ) := by
  have hw : ∀ i, i < 18 → ((σ.1 316 2).toInt = ((260 + i : Nat) : Int) → wAt U s = wL.getD (1 + i) []) := fun i hi h => (H.hw hT (i := 1 + i) (by omega)).mp (by rw [show 259 + (1 + i) = 260 + i by omega]; exact toI_n (by omega) h)
  have hw2 : ∀ i, i < 18 → wAt U s = wL.getD (1 + i) [] → (σ.1 316 2).toInt = ((260 + i : Nat) : Int) := fun i hi h => by
    rw [(H.hw hT (i := 1 + i) (by omega)).mpr h, nI_toInt (by omega), show 259 + (1 + i) = 260 + i by omega]
  rcases (by omega : k = 0 ∨ k = 1 ∨ k = 2 ∨ k = 3 ∨ k = 4) with rfl | rfl | rfl | rfl | rfl
  · refine T_of rfl ?_
    refine Ev_aload rfl rfl rfl ?_
    refine Ev_getI rfl (by first | rfl | assumption) ?_
    refine Ev_norm (hk : _ = nI 0) ?_
    refine Ev_if_eq rfl (fun h4 => ?_) (fun h4 => absurd (by decide) h4)
    refine Ev_const rfl ?_
    refine Ev_istore rfl ?_
    refine Ev_iload rfl rfl ?_
    refine Ev_if_eq rfl (fun h14 => ?_) (fun h14 => absurd (by decide) h14)
    refine Ev_const rfl ?_
    refine Ev_istore rfl ?_
    refine Ev_iload rfl rfl ?_
    refine Ev_if_eq rfl (fun h32 => ?_) (fun h32 => absurd (by decide) h32)
    refine Ev_const rfl ?_
    refine Ev_istore rfl ?_
    refine Ev_aload rfl rfl rfl ?_
    refine Ev_getR rfl (by first | rfl | assumption) (hρ _ _ _ rfl) ?_
    refine Ev_getI rfl (by first | rfl | assumption) ?_
    refine Ev_tab rfl rfl (swP_c (fun h56_0 => ?_) (fun g56_0 => swP_c (fun h56_1 => ?_) (fun g56_1 => swP_c (fun h56_2 => ?_) (fun g56_2 => swP_c (fun h56_3 => ?_) (fun g56_3 => swP_c (fun h56_4 => ?_) (fun g56_4 => swP_c (fun h56_5 => ?_) (fun g56_5 => swP_c (fun h56_6 => ?_) (fun g56_6 => swP_c (fun h56_7 => ?_) (fun g56_7 => swP_c (fun h56_8 => ?_) (fun g56_8 => swP_c (fun h56_9 => ?_) (fun g56_9 => swP_c (fun h56_10 => ?_) (fun g56_10 => swP_c (fun h56_11 => ?_) (fun g56_11 => swP_c (fun h56_12 => ?_) (fun g56_12 => swP_c (fun h56_13 => ?_) (fun g56_13 => swP_c (fun h56_14 => ?_) (fun g56_14 => swP_c (fun h56_15 => ?_) (fun g56_15 => swP_c (fun h56_16 => ?_) (fun g56_16 => swP_c (fun h56_17 => ?_) (fun g56_17 => swP_n ?_)))))))))))))))))))
    · refine Ev_iload rfl rfl ?_
      refine Ev_if_eq rfl (fun h167 => ?_) (fun h167 => absurd (by decide) h167)
      refine Ev_const rfl ?_
      exact Ev_ireturn rfl rfl rfl rfl ⟨by rw [show sgF 0 (wAt U s) = none by rw [hw 0 (by decide) h56_0]; decide]; rfl, rfl, rfl⟩
    · refine Ev_const rfl ?_
      exact Ev_ireturn rfl rfl rfl rfl ⟨by rw [show sgF 0 (wAt U s) = none by rw [hw 1 (by decide) h56_1]; decide]; rfl, rfl, rfl⟩
    · refine Ev_const rfl ?_
      exact Ev_ireturn rfl rfl rfl rfl ⟨by rw [show sgF 0 (wAt U s) = none by rw [hw 2 (by decide) h56_2]; decide]; rfl, rfl, rfl⟩
    · refine Ev_const rfl ?_
      exact Ev_ireturn rfl rfl rfl rfl ⟨by rw [show sgF 0 (wAt U s) = none by rw [hw 3 (by decide) h56_3]; decide]; rfl, rfl, rfl⟩
    · refine Ev_iload rfl rfl ?_
      refine Ev_if_eq rfl (fun h177 => ?_) (fun h177 => absurd (by decide) h177)
      refine Ev_const rfl ?_
      exact Ev_ireturn rfl rfl rfl rfl ⟨by rw [show sgF 0 (wAt U s) = none by rw [hw 4 (by decide) h56_4]; decide]; rfl, rfl, rfl⟩
    · refine Ev_iload rfl rfl ?_
      refine Ev_if_eq rfl (fun h147 => ?_) (fun h147 => absurd (by decide) h147)
      refine Ev_const rfl ?_
      exact Ev_ireturn rfl rfl rfl rfl ⟨by rw [show sgF 0 (wAt U s) = none by rw [hw 5 (by decide) h56_5]; decide]; rfl, rfl, rfl⟩
    · refine Ev_const rfl ?_
      exact Ev_ireturn rfl rfl rfl rfl ⟨by rw [show sgF 0 (wAt U s) = none by rw [hw 6 (by decide) h56_6]; decide]; rfl, rfl, rfl⟩
    · refine Ev_const rfl ?_
      exact Ev_ireturn rfl rfl rfl rfl ⟨by rw [show sgF 0 (wAt U s) = none by rw [hw 7 (by decide) h56_7]; decide]; rfl, rfl, rfl⟩
    · refine Ev_iload rfl rfl ?_
      refine Ev_if_eq rfl (fun h187 => ?_) (fun h187 => absurd (by decide) h187)
      refine Ev_const rfl ?_
      exact Ev_ireturn rfl rfl rfl rfl ⟨by rw [show sgF 0 (wAt U s) = none by rw [hw 8 (by decide) h56_8]; decide]; rfl, rfl, rfl⟩
    · refine Ev_const rfl ?_
      exact Ev_ireturn rfl rfl rfl rfl ⟨by rw [show sgF 0 (wAt U s) = none by rw [hw 9 (by decide) h56_9]; decide]; rfl, rfl, rfl⟩
    · refine Ev_const rfl ?_
      exact Ev_ireturn rfl rfl rfl rfl ⟨by rw [show sgF 0 (wAt U s) = none by rw [hw 10 (by decide) h56_10]; decide]; rfl, rfl, rfl⟩
    · refine Ev_const rfl ?_
      exact Ev_ireturn rfl rfl rfl rfl ⟨by rw [show sgF 0 (wAt U s) = none by rw [hw 11 (by decide) h56_11]; decide]; rfl, rfl, rfl⟩
    · refine Ev_const rfl ?_
      exact Ev_ireturn rfl rfl rfl rfl ⟨by rw [show sgF 0 (wAt U s) = none by rw [hw 12 (by decide) h56_12]; decide]; rfl, rfl, rfl⟩
    · refine Ev_const rfl ?_
      exact Ev_ireturn rfl rfl rfl rfl ⟨by rw [show sgF 0 (wAt U s) = some 0 by rw [hw 13 (by decide) h56_13]; decide]; rfl, rfl, rfl⟩
    · refine Ev_iload rfl rfl ?_
      refine Ev_if_eq rfl (fun h157 => ?_) (fun h157 => absurd (by decide) h157)
      refine Ev_const rfl ?_
      exact Ev_ireturn rfl rfl rfl rfl ⟨by rw [show sgF 0 (wAt U s) = none by rw [hw 14 (by decide) h56_14]; decide]; rfl, rfl, rfl⟩
    · refine Ev_aload rfl rfl rfl ?_
      refine Ev_getI rfl (by first | rfl | assumption) ?_
      refine Ev_norm (hk : _ = nI 0) ?_
      refine Ev_const rfl ?_
      refine Ev_icmp_ne rfl (fun h201 => ?_) (fun h201 => absurd (by decide) h201)
      refine Ev_const rfl ?_
      exact Ev_ireturn rfl rfl rfl rfl ⟨by rw [show sgF 0 (wAt U s) = none by rw [hw 15 (by decide) h56_15]; decide]; rfl, rfl, rfl⟩
    · refine Ev_aload rfl rfl rfl ?_
      refine Ev_getI rfl (by first | rfl | assumption) ?_
      refine Ev_norm (hk : _ = nI 0) ?_
      refine Ev_const rfl ?_
      refine Ev_icmp_ne rfl (fun h216 => ?_) (fun h216 => absurd (by decide) h216)
      refine Ev_const rfl ?_
      exact Ev_ireturn rfl rfl rfl rfl ⟨by rw [show sgF 0 (wAt U s) = none by rw [hw 16 (by decide) h56_16]; decide]; rfl, rfl, rfl⟩
    · refine Ev_aload rfl rfl rfl ?_
      refine Ev_getI rfl (by first | rfl | assumption) ?_
      refine Ev_norm (hk : _ = nI 0) ?_
      refine Ev_const rfl ?_
      refine Ev_icmp_ne rfl (fun h231 => ?_) (fun h231 => absurd (by decide) h231)
      refine Ev_const rfl ?_
      exact Ev_ireturn rfl rfl rfl rfl ⟨by rw [show sgF 0 (wAt U s) = none by rw [hw 17 (by decide) h56_17]; decide]; rfl, rfl, rfl⟩
    · refine Ev_const rfl ?_
      exact Ev_ireturn rfl rfl rfl rfl (by
      have hno : sgF 0 (wAt U s) = none := sg_no fun i hi z => by
        have := hw2 i hi z
        rcases (by omega : i = 0 ∨ i = 1 ∨ i = 2 ∨ i = 3 ∨ i = 4 ∨ i = 5 ∨ i = 6 ∨ i = 7 ∨ i = 8 ∨ i = 9 ∨ i = 10 ∨ i = 11 ∨ i = 12 ∨ i = 13 ∨ i = 14 ∨ i = 15 ∨ i = 16 ∨ i = 17) with rfl | rfl | rfl | rfl | rfl | rfl | rfl | rfl | rfl | rfl | rfl | rfl | rfl | rfl | rfl | rfl | rfl | rfl
        · exact g56_0 this
        · exact g56_1 this
        · exact g56_2 this
        · exact g56_3 this
        · exact g56_4 this
        · exact g56_5 this
        · exact g56_6 this
        · exact g56_7 this
        · exact g56_8 this
        · exact g56_9 this
        · exact g56_10 this
        · exact g56_11 this
        · exact g56_12 this
        · exact g56_13 this
        · exact g56_14 this
        · exact g56_15 this
        · exact g56_16 this
        · exact g56_17 this
      rw [hno]
      exact ⟨rfl, rfl, rfl⟩)
  · refine T_of rfl ?_
    refine Ev_aload rfl rfl rfl ?_
    refine Ev_getI rfl (by first | rfl | assumption) ?_
    refine Ev_norm (hk : _ = nI 1) ?_
    refine Ev_if_eq rfl (fun h4 => absurd h4 (by decide)) (fun h4 => ?_)
    refine Ev_const rfl ?_
    refine Ev_goto rfl ?_
    refine Ev_istore rfl ?_
    refine Ev_iload rfl rfl ?_
    refine Ev_if_eq rfl (fun h14 => absurd h14 (by decide)) (fun h14 => ?_)
    refine Ev_aload rfl rfl rfl ?_
    refine Ev_getI rfl (by first | rfl | assumption) ?_
    refine Ev_norm (hk : _ = nI 1) ?_
    refine Ev_const rfl ?_
    refine Ev_icmp_eq rfl (fun h22 => absurd h22 (by decide)) (fun h22 => ?_)
    refine Ev_const rfl ?_
    refine Ev_goto rfl ?_
    refine Ev_istore rfl ?_
    refine Ev_iload rfl rfl ?_
    refine Ev_if_eq rfl (fun h32 => absurd h32 (by decide)) (fun h32 => ?_)
    refine Ev_aload rfl rfl rfl ?_
    refine Ev_getI rfl (by first | rfl | assumption) ?_
    refine Ev_norm (hk : _ = nI 1) ?_
    refine Ev_const rfl ?_
    refine Ev_icmp_eq rfl (fun h40 => absurd h40 (by decide)) (fun h40 => ?_)
    refine Ev_const rfl ?_
    refine Ev_goto rfl ?_
    refine Ev_istore rfl ?_
    refine Ev_aload rfl rfl rfl ?_
    refine Ev_getR rfl (by first | rfl | assumption) (hρ _ _ _ rfl) ?_
    refine Ev_getI rfl (by first | rfl | assumption) ?_
    refine Ev_tab rfl rfl (swP_c (fun h56_0 => ?_) (fun g56_0 => swP_c (fun h56_1 => ?_) (fun g56_1 => swP_c (fun h56_2 => ?_) (fun g56_2 => swP_c (fun h56_3 => ?_) (fun g56_3 => swP_c (fun h56_4 => ?_) (fun g56_4 => swP_c (fun h56_5 => ?_) (fun g56_5 => swP_c (fun h56_6 => ?_) (fun g56_6 => swP_c (fun h56_7 => ?_) (fun g56_7 => swP_c (fun h56_8 => ?_) (fun g56_8 => swP_c (fun h56_9 => ?_) (fun g56_9 => swP_c (fun h56_10 => ?_) (fun g56_10 => swP_c (fun h56_11 => ?_) (fun g56_11 => swP_c (fun h56_12 => ?_) (fun g56_12 => swP_c (fun h56_13 => ?_) (fun g56_13 => swP_c (fun h56_14 => ?_) (fun g56_14 => swP_c (fun h56_15 => ?_) (fun g56_15 => swP_c (fun h56_16 => ?_) (fun g56_16 => swP_c (fun h56_17 => ?_) (fun g56_17 => swP_n ?_)))))))))))))))))))
    · refine Ev_iload rfl rfl ?_
      refine Ev_if_eq rfl (fun h167 => absurd h167 (by decide)) (fun h167 => ?_)
      refine Ev_const rfl ?_
      refine Ev_goto rfl ?_
      exact Ev_ireturn rfl rfl rfl rfl ⟨by rw [show sgF 1 (wAt U s) = some 1 by rw [hw 0 (by decide) h56_0]; decide]; rfl, rfl, rfl⟩
    · refine Ev_const rfl ?_
      exact Ev_ireturn rfl rfl rfl rfl ⟨by rw [show sgF 1 (wAt U s) = none by rw [hw 1 (by decide) h56_1]; decide]; rfl, rfl, rfl⟩
    · refine Ev_const rfl ?_
      exact Ev_ireturn rfl rfl rfl rfl ⟨by rw [show sgF 1 (wAt U s) = none by rw [hw 2 (by decide) h56_2]; decide]; rfl, rfl, rfl⟩
    · refine Ev_const rfl ?_
      exact Ev_ireturn rfl rfl rfl rfl ⟨by rw [show sgF 1 (wAt U s) = none by rw [hw 3 (by decide) h56_3]; decide]; rfl, rfl, rfl⟩
    · refine Ev_iload rfl rfl ?_
      refine Ev_if_eq rfl (fun h177 => absurd h177 (by decide)) (fun h177 => ?_)
      refine Ev_const rfl ?_
      refine Ev_goto rfl ?_
      exact Ev_ireturn rfl rfl rfl rfl ⟨by rw [show sgF 1 (wAt U s) = some 4 by rw [hw 4 (by decide) h56_4]; decide]; rfl, rfl, rfl⟩
    · refine Ev_iload rfl rfl ?_
      refine Ev_if_eq rfl (fun h147 => absurd h147 (by decide)) (fun h147 => ?_)
      refine Ev_const rfl ?_
      refine Ev_goto rfl ?_
      exact Ev_ireturn rfl rfl rfl rfl ⟨by rw [show sgF 1 (wAt U s) = some 2 by rw [hw 5 (by decide) h56_5]; decide]; rfl, rfl, rfl⟩
    · refine Ev_const rfl ?_
      exact Ev_ireturn rfl rfl rfl rfl ⟨by rw [show sgF 1 (wAt U s) = none by rw [hw 6 (by decide) h56_6]; decide]; rfl, rfl, rfl⟩
    · refine Ev_const rfl ?_
      exact Ev_ireturn rfl rfl rfl rfl ⟨by rw [show sgF 1 (wAt U s) = none by rw [hw 7 (by decide) h56_7]; decide]; rfl, rfl, rfl⟩
    · refine Ev_iload rfl rfl ?_
      refine Ev_if_eq rfl (fun h187 => absurd h187 (by decide)) (fun h187 => ?_)
      refine Ev_const rfl ?_
      refine Ev_goto rfl ?_
      exact Ev_ireturn rfl rfl rfl rfl ⟨by rw [show sgF 1 (wAt U s) = some 5 by rw [hw 8 (by decide) h56_8]; decide]; rfl, rfl, rfl⟩
    · refine Ev_const rfl ?_
      exact Ev_ireturn rfl rfl rfl rfl ⟨by rw [show sgF 1 (wAt U s) = none by rw [hw 9 (by decide) h56_9]; decide]; rfl, rfl, rfl⟩
    · refine Ev_const rfl ?_
      exact Ev_ireturn rfl rfl rfl rfl ⟨by rw [show sgF 1 (wAt U s) = none by rw [hw 10 (by decide) h56_10]; decide]; rfl, rfl, rfl⟩
    · refine Ev_const rfl ?_
      exact Ev_ireturn rfl rfl rfl rfl ⟨by rw [show sgF 1 (wAt U s) = none by rw [hw 11 (by decide) h56_11]; decide]; rfl, rfl, rfl⟩
    · refine Ev_const rfl ?_
      exact Ev_ireturn rfl rfl rfl rfl ⟨by rw [show sgF 1 (wAt U s) = none by rw [hw 12 (by decide) h56_12]; decide]; rfl, rfl, rfl⟩
    · refine Ev_const rfl ?_
      exact Ev_ireturn rfl rfl rfl rfl ⟨by rw [show sgF 1 (wAt U s) = some 0 by rw [hw 13 (by decide) h56_13]; decide]; rfl, rfl, rfl⟩
    · refine Ev_iload rfl rfl ?_
      refine Ev_if_eq rfl (fun h157 => absurd h157 (by decide)) (fun h157 => ?_)
      refine Ev_const rfl ?_
      refine Ev_goto rfl ?_
      exact Ev_ireturn rfl rfl rfl rfl ⟨by rw [show sgF 1 (wAt U s) = some 3 by rw [hw 14 (by decide) h56_14]; decide]; rfl, rfl, rfl⟩
    · refine Ev_aload rfl rfl rfl ?_
      refine Ev_getI rfl (by first | rfl | assumption) ?_
      refine Ev_norm (hk : _ = nI 1) ?_
      refine Ev_const rfl ?_
      refine Ev_icmp_ne rfl (fun h201 => ?_) (fun h201 => absurd (by decide) h201)
      refine Ev_const rfl ?_
      exact Ev_ireturn rfl rfl rfl rfl ⟨by rw [show sgF 1 (wAt U s) = none by rw [hw 15 (by decide) h56_15]; decide]; rfl, rfl, rfl⟩
    · refine Ev_aload rfl rfl rfl ?_
      refine Ev_getI rfl (by first | rfl | assumption) ?_
      refine Ev_norm (hk : _ = nI 1) ?_
      refine Ev_const rfl ?_
      refine Ev_icmp_ne rfl (fun h216 => ?_) (fun h216 => absurd (by decide) h216)
      refine Ev_const rfl ?_
      exact Ev_ireturn rfl rfl rfl rfl ⟨by rw [show sgF 1 (wAt U s) = none by rw [hw 16 (by decide) h56_16]; decide]; rfl, rfl, rfl⟩
    · refine Ev_aload rfl rfl rfl ?_
      refine Ev_getI rfl (by first | rfl | assumption) ?_
      refine Ev_norm (hk : _ = nI 1) ?_
      refine Ev_const rfl ?_
      refine Ev_icmp_ne rfl (fun h231 => ?_) (fun h231 => absurd (by decide) h231)
      refine Ev_const rfl ?_
      exact Ev_ireturn rfl rfl rfl rfl ⟨by rw [show sgF 1 (wAt U s) = none by rw [hw 17 (by decide) h56_17]; decide]; rfl, rfl, rfl⟩
    · refine Ev_const rfl ?_
      exact Ev_ireturn rfl rfl rfl rfl (by
      have hno : sgF 1 (wAt U s) = none := sg_no fun i hi z => by
        have := hw2 i hi z
        rcases (by omega : i = 0 ∨ i = 1 ∨ i = 2 ∨ i = 3 ∨ i = 4 ∨ i = 5 ∨ i = 6 ∨ i = 7 ∨ i = 8 ∨ i = 9 ∨ i = 10 ∨ i = 11 ∨ i = 12 ∨ i = 13 ∨ i = 14 ∨ i = 15 ∨ i = 16 ∨ i = 17) with rfl | rfl | rfl | rfl | rfl | rfl | rfl | rfl | rfl | rfl | rfl | rfl | rfl | rfl | rfl | rfl | rfl | rfl
        · exact g56_0 this
        · exact g56_1 this
        · exact g56_2 this
        · exact g56_3 this
        · exact g56_4 this
        · exact g56_5 this
        · exact g56_6 this
        · exact g56_7 this
        · exact g56_8 this
        · exact g56_9 this
        · exact g56_10 this
        · exact g56_11 this
        · exact g56_12 this
        · exact g56_13 this
        · exact g56_14 this
        · exact g56_15 this
        · exact g56_16 this
        · exact g56_17 this
      rw [hno]
      exact ⟨rfl, rfl, rfl⟩)
  · refine T_of rfl ?_
    refine Ev_aload rfl rfl rfl ?_
    refine Ev_getI rfl (by first | rfl | assumption) ?_
    refine Ev_norm (hk : _ = nI 2) ?_
    refine Ev_if_eq rfl (fun h4 => absurd h4 (by decide)) (fun h4 => ?_)
    refine Ev_const rfl ?_
    refine Ev_goto rfl ?_
    refine Ev_istore rfl ?_
    refine Ev_iload rfl rfl ?_
    refine Ev_if_eq rfl (fun h14 => absurd h14 (by decide)) (fun h14 => ?_)
    refine Ev_aload rfl rfl rfl ?_
    refine Ev_getI rfl (by first | rfl | assumption) ?_
    refine Ev_norm (hk : _ = nI 2) ?_
    refine Ev_const rfl ?_
    refine Ev_icmp_eq rfl (fun h22 => absurd h22 (by decide)) (fun h22 => ?_)
    refine Ev_const rfl ?_
    refine Ev_goto rfl ?_
    refine Ev_istore rfl ?_
    refine Ev_iload rfl rfl ?_
    refine Ev_if_eq rfl (fun h32 => absurd h32 (by decide)) (fun h32 => ?_)
    refine Ev_aload rfl rfl rfl ?_
    refine Ev_getI rfl (by first | rfl | assumption) ?_
    refine Ev_norm (hk : _ = nI 2) ?_
    refine Ev_const rfl ?_
    refine Ev_icmp_eq rfl (fun h40 => ?_) (fun h40 => absurd (by decide) h40)
    refine Ev_const rfl ?_
    refine Ev_istore rfl ?_
    refine Ev_aload rfl rfl rfl ?_
    refine Ev_getR rfl (by first | rfl | assumption) (hρ _ _ _ rfl) ?_
    refine Ev_getI rfl (by first | rfl | assumption) ?_
    refine Ev_tab rfl rfl (swP_c (fun h56_0 => ?_) (fun g56_0 => swP_c (fun h56_1 => ?_) (fun g56_1 => swP_c (fun h56_2 => ?_) (fun g56_2 => swP_c (fun h56_3 => ?_) (fun g56_3 => swP_c (fun h56_4 => ?_) (fun g56_4 => swP_c (fun h56_5 => ?_) (fun g56_5 => swP_c (fun h56_6 => ?_) (fun g56_6 => swP_c (fun h56_7 => ?_) (fun g56_7 => swP_c (fun h56_8 => ?_) (fun g56_8 => swP_c (fun h56_9 => ?_) (fun g56_9 => swP_c (fun h56_10 => ?_) (fun g56_10 => swP_c (fun h56_11 => ?_) (fun g56_11 => swP_c (fun h56_12 => ?_) (fun g56_12 => swP_c (fun h56_13 => ?_) (fun g56_13 => swP_c (fun h56_14 => ?_) (fun g56_14 => swP_c (fun h56_15 => ?_) (fun g56_15 => swP_c (fun h56_16 => ?_) (fun g56_16 => swP_c (fun h56_17 => ?_) (fun g56_17 => swP_n ?_)))))))))))))))))))
    · refine Ev_iload rfl rfl ?_
      refine Ev_if_eq rfl (fun h167 => absurd h167 (by decide)) (fun h167 => ?_)
      refine Ev_const rfl ?_
      refine Ev_goto rfl ?_
      exact Ev_ireturn rfl rfl rfl rfl ⟨by rw [show sgF 2 (wAt U s) = some 1 by rw [hw 0 (by decide) h56_0]; decide]; rfl, rfl, rfl⟩
    · refine Ev_const rfl ?_
      exact Ev_ireturn rfl rfl rfl rfl ⟨by rw [show sgF 2 (wAt U s) = none by rw [hw 1 (by decide) h56_1]; decide]; rfl, rfl, rfl⟩
    · refine Ev_const rfl ?_
      exact Ev_ireturn rfl rfl rfl rfl ⟨by rw [show sgF 2 (wAt U s) = none by rw [hw 2 (by decide) h56_2]; decide]; rfl, rfl, rfl⟩
    · refine Ev_const rfl ?_
      exact Ev_ireturn rfl rfl rfl rfl ⟨by rw [show sgF 2 (wAt U s) = none by rw [hw 3 (by decide) h56_3]; decide]; rfl, rfl, rfl⟩
    · refine Ev_iload rfl rfl ?_
      refine Ev_if_eq rfl (fun h177 => ?_) (fun h177 => absurd (by decide) h177)
      refine Ev_const rfl ?_
      exact Ev_ireturn rfl rfl rfl rfl ⟨by rw [show sgF 2 (wAt U s) = none by rw [hw 4 (by decide) h56_4]; decide]; rfl, rfl, rfl⟩
    · refine Ev_iload rfl rfl ?_
      refine Ev_if_eq rfl (fun h147 => absurd h147 (by decide)) (fun h147 => ?_)
      refine Ev_const rfl ?_
      refine Ev_goto rfl ?_
      exact Ev_ireturn rfl rfl rfl rfl ⟨by rw [show sgF 2 (wAt U s) = some 2 by rw [hw 5 (by decide) h56_5]; decide]; rfl, rfl, rfl⟩
    · refine Ev_const rfl ?_
      exact Ev_ireturn rfl rfl rfl rfl ⟨by rw [show sgF 2 (wAt U s) = none by rw [hw 6 (by decide) h56_6]; decide]; rfl, rfl, rfl⟩
    · refine Ev_const rfl ?_
      exact Ev_ireturn rfl rfl rfl rfl ⟨by rw [show sgF 2 (wAt U s) = none by rw [hw 7 (by decide) h56_7]; decide]; rfl, rfl, rfl⟩
    · refine Ev_iload rfl rfl ?_
      refine Ev_if_eq rfl (fun h187 => ?_) (fun h187 => absurd (by decide) h187)
      refine Ev_const rfl ?_
      exact Ev_ireturn rfl rfl rfl rfl ⟨by rw [show sgF 2 (wAt U s) = none by rw [hw 8 (by decide) h56_8]; decide]; rfl, rfl, rfl⟩
    · refine Ev_const rfl ?_
      exact Ev_ireturn rfl rfl rfl rfl ⟨by rw [show sgF 2 (wAt U s) = none by rw [hw 9 (by decide) h56_9]; decide]; rfl, rfl, rfl⟩
    · refine Ev_const rfl ?_
      exact Ev_ireturn rfl rfl rfl rfl ⟨by rw [show sgF 2 (wAt U s) = none by rw [hw 10 (by decide) h56_10]; decide]; rfl, rfl, rfl⟩
    · refine Ev_const rfl ?_
      exact Ev_ireturn rfl rfl rfl rfl ⟨by rw [show sgF 2 (wAt U s) = none by rw [hw 11 (by decide) h56_11]; decide]; rfl, rfl, rfl⟩
    · refine Ev_const rfl ?_
      exact Ev_ireturn rfl rfl rfl rfl ⟨by rw [show sgF 2 (wAt U s) = none by rw [hw 12 (by decide) h56_12]; decide]; rfl, rfl, rfl⟩
    · refine Ev_const rfl ?_
      exact Ev_ireturn rfl rfl rfl rfl ⟨by rw [show sgF 2 (wAt U s) = some 0 by rw [hw 13 (by decide) h56_13]; decide]; rfl, rfl, rfl⟩
    · refine Ev_iload rfl rfl ?_
      refine Ev_if_eq rfl (fun h157 => absurd h157 (by decide)) (fun h157 => ?_)
      refine Ev_const rfl ?_
      refine Ev_goto rfl ?_
      exact Ev_ireturn rfl rfl rfl rfl ⟨by rw [show sgF 2 (wAt U s) = some 3 by rw [hw 14 (by decide) h56_14]; decide]; rfl, rfl, rfl⟩
    · refine Ev_aload rfl rfl rfl ?_
      refine Ev_getI rfl (by first | rfl | assumption) ?_
      refine Ev_norm (hk : _ = nI 2) ?_
      refine Ev_const rfl ?_
      refine Ev_icmp_ne rfl (fun h201 => absurd h201 (by decide)) (fun h201 => ?_)
      refine Ev_const rfl ?_
      refine Ev_goto rfl ?_
      exact Ev_ireturn rfl rfl rfl rfl ⟨by rw [show sgF 2 (wAt U s) = some 6 by rw [hw 15 (by decide) h56_15]; decide]; rfl, rfl, rfl⟩
    · refine Ev_aload rfl rfl rfl ?_
      refine Ev_getI rfl (by first | rfl | assumption) ?_
      refine Ev_norm (hk : _ = nI 2) ?_
      refine Ev_const rfl ?_
      refine Ev_icmp_ne rfl (fun h216 => absurd h216 (by decide)) (fun h216 => ?_)
      refine Ev_const rfl ?_
      refine Ev_goto rfl ?_
      exact Ev_ireturn rfl rfl rfl rfl ⟨by rw [show sgF 2 (wAt U s) = some 7 by rw [hw 16 (by decide) h56_16]; decide]; rfl, rfl, rfl⟩
    · refine Ev_aload rfl rfl rfl ?_
      refine Ev_getI rfl (by first | rfl | assumption) ?_
      refine Ev_norm (hk : _ = nI 2) ?_
      refine Ev_const rfl ?_
      refine Ev_icmp_ne rfl (fun h231 => ?_) (fun h231 => absurd (by decide) h231)
      refine Ev_const rfl ?_
      exact Ev_ireturn rfl rfl rfl rfl ⟨by rw [show sgF 2 (wAt U s) = none by rw [hw 17 (by decide) h56_17]; decide]; rfl, rfl, rfl⟩
    · refine Ev_const rfl ?_
      exact Ev_ireturn rfl rfl rfl rfl (by
      have hno : sgF 2 (wAt U s) = none := sg_no fun i hi z => by
        have := hw2 i hi z
        rcases (by omega : i = 0 ∨ i = 1 ∨ i = 2 ∨ i = 3 ∨ i = 4 ∨ i = 5 ∨ i = 6 ∨ i = 7 ∨ i = 8 ∨ i = 9 ∨ i = 10 ∨ i = 11 ∨ i = 12 ∨ i = 13 ∨ i = 14 ∨ i = 15 ∨ i = 16 ∨ i = 17) with rfl | rfl | rfl | rfl | rfl | rfl | rfl | rfl | rfl | rfl | rfl | rfl | rfl | rfl | rfl | rfl | rfl | rfl
        · exact g56_0 this
        · exact g56_1 this
        · exact g56_2 this
        · exact g56_3 this
        · exact g56_4 this
        · exact g56_5 this
        · exact g56_6 this
        · exact g56_7 this
        · exact g56_8 this
        · exact g56_9 this
        · exact g56_10 this
        · exact g56_11 this
        · exact g56_12 this
        · exact g56_13 this
        · exact g56_14 this
        · exact g56_15 this
        · exact g56_16 this
        · exact g56_17 this
      rw [hno]
      exact ⟨rfl, rfl, rfl⟩)
  · refine T_of rfl ?_
    refine Ev_aload rfl rfl rfl ?_
    refine Ev_getI rfl (by first | rfl | assumption) ?_
    refine Ev_norm (hk : _ = nI 3) ?_
    refine Ev_if_eq rfl (fun h4 => absurd h4 (by decide)) (fun h4 => ?_)
    refine Ev_const rfl ?_
    refine Ev_goto rfl ?_
    refine Ev_istore rfl ?_
    refine Ev_iload rfl rfl ?_
    refine Ev_if_eq rfl (fun h14 => absurd h14 (by decide)) (fun h14 => ?_)
    refine Ev_aload rfl rfl rfl ?_
    refine Ev_getI rfl (by first | rfl | assumption) ?_
    refine Ev_norm (hk : _ = nI 3) ?_
    refine Ev_const rfl ?_
    refine Ev_icmp_eq rfl (fun h22 => absurd h22 (by decide)) (fun h22 => ?_)
    refine Ev_const rfl ?_
    refine Ev_goto rfl ?_
    refine Ev_istore rfl ?_
    refine Ev_iload rfl rfl ?_
    refine Ev_if_eq rfl (fun h32 => absurd h32 (by decide)) (fun h32 => ?_)
    refine Ev_aload rfl rfl rfl ?_
    refine Ev_getI rfl (by first | rfl | assumption) ?_
    refine Ev_norm (hk : _ = nI 3) ?_
    refine Ev_const rfl ?_
    refine Ev_icmp_eq rfl (fun h40 => absurd h40 (by decide)) (fun h40 => ?_)
    refine Ev_const rfl ?_
    refine Ev_goto rfl ?_
    refine Ev_istore rfl ?_
    refine Ev_aload rfl rfl rfl ?_
    refine Ev_getR rfl (by first | rfl | assumption) (hρ _ _ _ rfl) ?_
    refine Ev_getI rfl (by first | rfl | assumption) ?_
    refine Ev_tab rfl rfl (swP_c (fun h56_0 => ?_) (fun g56_0 => swP_c (fun h56_1 => ?_) (fun g56_1 => swP_c (fun h56_2 => ?_) (fun g56_2 => swP_c (fun h56_3 => ?_) (fun g56_3 => swP_c (fun h56_4 => ?_) (fun g56_4 => swP_c (fun h56_5 => ?_) (fun g56_5 => swP_c (fun h56_6 => ?_) (fun g56_6 => swP_c (fun h56_7 => ?_) (fun g56_7 => swP_c (fun h56_8 => ?_) (fun g56_8 => swP_c (fun h56_9 => ?_) (fun g56_9 => swP_c (fun h56_10 => ?_) (fun g56_10 => swP_c (fun h56_11 => ?_) (fun g56_11 => swP_c (fun h56_12 => ?_) (fun g56_12 => swP_c (fun h56_13 => ?_) (fun g56_13 => swP_c (fun h56_14 => ?_) (fun g56_14 => swP_c (fun h56_15 => ?_) (fun g56_15 => swP_c (fun h56_16 => ?_) (fun g56_16 => swP_c (fun h56_17 => ?_) (fun g56_17 => swP_n ?_)))))))))))))))))))
    · refine Ev_iload rfl rfl ?_
      refine Ev_if_eq rfl (fun h167 => absurd h167 (by decide)) (fun h167 => ?_)
      refine Ev_const rfl ?_
      refine Ev_goto rfl ?_
      exact Ev_ireturn rfl rfl rfl rfl ⟨by rw [show sgF 3 (wAt U s) = some 1 by rw [hw 0 (by decide) h56_0]; decide]; rfl, rfl, rfl⟩
    · refine Ev_const rfl ?_
      exact Ev_ireturn rfl rfl rfl rfl ⟨by rw [show sgF 3 (wAt U s) = none by rw [hw 1 (by decide) h56_1]; decide]; rfl, rfl, rfl⟩
    · refine Ev_const rfl ?_
      exact Ev_ireturn rfl rfl rfl rfl ⟨by rw [show sgF 3 (wAt U s) = none by rw [hw 2 (by decide) h56_2]; decide]; rfl, rfl, rfl⟩
    · refine Ev_const rfl ?_
      exact Ev_ireturn rfl rfl rfl rfl ⟨by rw [show sgF 3 (wAt U s) = none by rw [hw 3 (by decide) h56_3]; decide]; rfl, rfl, rfl⟩
    · refine Ev_iload rfl rfl ?_
      refine Ev_if_eq rfl (fun h177 => absurd h177 (by decide)) (fun h177 => ?_)
      refine Ev_const rfl ?_
      refine Ev_goto rfl ?_
      exact Ev_ireturn rfl rfl rfl rfl ⟨by rw [show sgF 3 (wAt U s) = some 4 by rw [hw 4 (by decide) h56_4]; decide]; rfl, rfl, rfl⟩
    · refine Ev_iload rfl rfl ?_
      refine Ev_if_eq rfl (fun h147 => absurd h147 (by decide)) (fun h147 => ?_)
      refine Ev_const rfl ?_
      refine Ev_goto rfl ?_
      exact Ev_ireturn rfl rfl rfl rfl ⟨by rw [show sgF 3 (wAt U s) = some 2 by rw [hw 5 (by decide) h56_5]; decide]; rfl, rfl, rfl⟩
    · refine Ev_const rfl ?_
      exact Ev_ireturn rfl rfl rfl rfl ⟨by rw [show sgF 3 (wAt U s) = none by rw [hw 6 (by decide) h56_6]; decide]; rfl, rfl, rfl⟩
    · refine Ev_const rfl ?_
      exact Ev_ireturn rfl rfl rfl rfl ⟨by rw [show sgF 3 (wAt U s) = none by rw [hw 7 (by decide) h56_7]; decide]; rfl, rfl, rfl⟩
    · refine Ev_iload rfl rfl ?_
      refine Ev_if_eq rfl (fun h187 => absurd h187 (by decide)) (fun h187 => ?_)
      refine Ev_const rfl ?_
      refine Ev_goto rfl ?_
      exact Ev_ireturn rfl rfl rfl rfl ⟨by rw [show sgF 3 (wAt U s) = some 5 by rw [hw 8 (by decide) h56_8]; decide]; rfl, rfl, rfl⟩
    · refine Ev_const rfl ?_
      exact Ev_ireturn rfl rfl rfl rfl ⟨by rw [show sgF 3 (wAt U s) = none by rw [hw 9 (by decide) h56_9]; decide]; rfl, rfl, rfl⟩
    · refine Ev_const rfl ?_
      exact Ev_ireturn rfl rfl rfl rfl ⟨by rw [show sgF 3 (wAt U s) = none by rw [hw 10 (by decide) h56_10]; decide]; rfl, rfl, rfl⟩
    · refine Ev_const rfl ?_
      exact Ev_ireturn rfl rfl rfl rfl ⟨by rw [show sgF 3 (wAt U s) = none by rw [hw 11 (by decide) h56_11]; decide]; rfl, rfl, rfl⟩
    · refine Ev_const rfl ?_
      exact Ev_ireturn rfl rfl rfl rfl ⟨by rw [show sgF 3 (wAt U s) = none by rw [hw 12 (by decide) h56_12]; decide]; rfl, rfl, rfl⟩
    · refine Ev_const rfl ?_
      exact Ev_ireturn rfl rfl rfl rfl ⟨by rw [show sgF 3 (wAt U s) = some 0 by rw [hw 13 (by decide) h56_13]; decide]; rfl, rfl, rfl⟩
    · refine Ev_iload rfl rfl ?_
      refine Ev_if_eq rfl (fun h157 => absurd h157 (by decide)) (fun h157 => ?_)
      refine Ev_const rfl ?_
      refine Ev_goto rfl ?_
      exact Ev_ireturn rfl rfl rfl rfl ⟨by rw [show sgF 3 (wAt U s) = some 3 by rw [hw 14 (by decide) h56_14]; decide]; rfl, rfl, rfl⟩
    · refine Ev_aload rfl rfl rfl ?_
      refine Ev_getI rfl (by first | rfl | assumption) ?_
      refine Ev_norm (hk : _ = nI 3) ?_
      refine Ev_const rfl ?_
      refine Ev_icmp_ne rfl (fun h201 => ?_) (fun h201 => absurd (by decide) h201)
      refine Ev_const rfl ?_
      exact Ev_ireturn rfl rfl rfl rfl ⟨by rw [show sgF 3 (wAt U s) = none by rw [hw 15 (by decide) h56_15]; decide]; rfl, rfl, rfl⟩
    · refine Ev_aload rfl rfl rfl ?_
      refine Ev_getI rfl (by first | rfl | assumption) ?_
      refine Ev_norm (hk : _ = nI 3) ?_
      refine Ev_const rfl ?_
      refine Ev_icmp_ne rfl (fun h216 => ?_) (fun h216 => absurd (by decide) h216)
      refine Ev_const rfl ?_
      exact Ev_ireturn rfl rfl rfl rfl ⟨by rw [show sgF 3 (wAt U s) = none by rw [hw 16 (by decide) h56_16]; decide]; rfl, rfl, rfl⟩
    · refine Ev_aload rfl rfl rfl ?_
      refine Ev_getI rfl (by first | rfl | assumption) ?_
      refine Ev_norm (hk : _ = nI 3) ?_
      refine Ev_const rfl ?_
      refine Ev_icmp_ne rfl (fun h231 => ?_) (fun h231 => absurd (by decide) h231)
      refine Ev_const rfl ?_
      exact Ev_ireturn rfl rfl rfl rfl ⟨by rw [show sgF 3 (wAt U s) = none by rw [hw 17 (by decide) h56_17]; decide]; rfl, rfl, rfl⟩
    · refine Ev_const rfl ?_
      exact Ev_ireturn rfl rfl rfl rfl (by
      have hno : sgF 3 (wAt U s) = none := sg_no fun i hi z => by
        have := hw2 i hi z
        rcases (by omega : i = 0 ∨ i = 1 ∨ i = 2 ∨ i = 3 ∨ i = 4 ∨ i = 5 ∨ i = 6 ∨ i = 7 ∨ i = 8 ∨ i = 9 ∨ i = 10 ∨ i = 11 ∨ i = 12 ∨ i = 13 ∨ i = 14 ∨ i = 15 ∨ i = 16 ∨ i = 17) with rfl | rfl | rfl | rfl | rfl | rfl | rfl | rfl | rfl | rfl | rfl | rfl | rfl | rfl | rfl | rfl | rfl | rfl
        · exact g56_0 this
        · exact g56_1 this
        · exact g56_2 this
        · exact g56_3 this
        · exact g56_4 this
        · exact g56_5 this
        · exact g56_6 this
        · exact g56_7 this
        · exact g56_8 this
        · exact g56_9 this
        · exact g56_10 this
        · exact g56_11 this
        · exact g56_12 this
        · exact g56_13 this
        · exact g56_14 this
        · exact g56_15 this
        · exact g56_16 this
        · exact g56_17 this
      rw [hno]
      exact ⟨rfl, rfl, rfl⟩)
  · refine T_of rfl ?_
    refine Ev_aload rfl rfl rfl ?_
    refine Ev_getI rfl (by first | rfl | assumption) ?_
    refine Ev_norm (hk : _ = nI 4) ?_
    refine Ev_if_eq rfl (fun h4 => absurd h4 (by decide)) (fun h4 => ?_)
    refine Ev_const rfl ?_
    refine Ev_goto rfl ?_
    refine Ev_istore rfl ?_
    refine Ev_iload rfl rfl ?_
    refine Ev_if_eq rfl (fun h14 => absurd h14 (by decide)) (fun h14 => ?_)
    refine Ev_aload rfl rfl rfl ?_
    refine Ev_getI rfl (by first | rfl | assumption) ?_
    refine Ev_norm (hk : _ = nI 4) ?_
    refine Ev_const rfl ?_
    refine Ev_icmp_eq rfl (fun h22 => ?_) (fun h22 => absurd (by decide) h22)
    refine Ev_const rfl ?_
    refine Ev_istore rfl ?_
    refine Ev_iload rfl rfl ?_
    refine Ev_if_eq rfl (fun h32 => absurd h32 (by decide)) (fun h32 => ?_)
    refine Ev_aload rfl rfl rfl ?_
    refine Ev_getI rfl (by first | rfl | assumption) ?_
    refine Ev_norm (hk : _ = nI 4) ?_
    refine Ev_const rfl ?_
    refine Ev_icmp_eq rfl (fun h40 => absurd h40 (by decide)) (fun h40 => ?_)
    refine Ev_const rfl ?_
    refine Ev_goto rfl ?_
    refine Ev_istore rfl ?_
    refine Ev_aload rfl rfl rfl ?_
    refine Ev_getR rfl (by first | rfl | assumption) (hρ _ _ _ rfl) ?_
    refine Ev_getI rfl (by first | rfl | assumption) ?_
    refine Ev_tab rfl rfl (swP_c (fun h56_0 => ?_) (fun g56_0 => swP_c (fun h56_1 => ?_) (fun g56_1 => swP_c (fun h56_2 => ?_) (fun g56_2 => swP_c (fun h56_3 => ?_) (fun g56_3 => swP_c (fun h56_4 => ?_) (fun g56_4 => swP_c (fun h56_5 => ?_) (fun g56_5 => swP_c (fun h56_6 => ?_) (fun g56_6 => swP_c (fun h56_7 => ?_) (fun g56_7 => swP_c (fun h56_8 => ?_) (fun g56_8 => swP_c (fun h56_9 => ?_) (fun g56_9 => swP_c (fun h56_10 => ?_) (fun g56_10 => swP_c (fun h56_11 => ?_) (fun g56_11 => swP_c (fun h56_12 => ?_) (fun g56_12 => swP_c (fun h56_13 => ?_) (fun g56_13 => swP_c (fun h56_14 => ?_) (fun g56_14 => swP_c (fun h56_15 => ?_) (fun g56_15 => swP_c (fun h56_16 => ?_) (fun g56_16 => swP_c (fun h56_17 => ?_) (fun g56_17 => swP_n ?_)))))))))))))))))))
    · refine Ev_iload rfl rfl ?_
      refine Ev_if_eq rfl (fun h167 => ?_) (fun h167 => absurd (by decide) h167)
      refine Ev_const rfl ?_
      exact Ev_ireturn rfl rfl rfl rfl ⟨by rw [show sgF 4 (wAt U s) = none by rw [hw 0 (by decide) h56_0]; decide]; rfl, rfl, rfl⟩
    · refine Ev_const rfl ?_
      exact Ev_ireturn rfl rfl rfl rfl ⟨by rw [show sgF 4 (wAt U s) = none by rw [hw 1 (by decide) h56_1]; decide]; rfl, rfl, rfl⟩
    · refine Ev_const rfl ?_
      exact Ev_ireturn rfl rfl rfl rfl ⟨by rw [show sgF 4 (wAt U s) = none by rw [hw 2 (by decide) h56_2]; decide]; rfl, rfl, rfl⟩
    · refine Ev_const rfl ?_
      exact Ev_ireturn rfl rfl rfl rfl ⟨by rw [show sgF 4 (wAt U s) = none by rw [hw 3 (by decide) h56_3]; decide]; rfl, rfl, rfl⟩
    · refine Ev_iload rfl rfl ?_
      refine Ev_if_eq rfl (fun h177 => absurd h177 (by decide)) (fun h177 => ?_)
      refine Ev_const rfl ?_
      refine Ev_goto rfl ?_
      exact Ev_ireturn rfl rfl rfl rfl ⟨by rw [show sgF 4 (wAt U s) = some 4 by rw [hw 4 (by decide) h56_4]; decide]; rfl, rfl, rfl⟩
    · refine Ev_iload rfl rfl ?_
      refine Ev_if_eq rfl (fun h147 => absurd h147 (by decide)) (fun h147 => ?_)
      refine Ev_const rfl ?_
      refine Ev_goto rfl ?_
      exact Ev_ireturn rfl rfl rfl rfl ⟨by rw [show sgF 4 (wAt U s) = some 2 by rw [hw 5 (by decide) h56_5]; decide]; rfl, rfl, rfl⟩
    · refine Ev_const rfl ?_
      exact Ev_ireturn rfl rfl rfl rfl ⟨by rw [show sgF 4 (wAt U s) = none by rw [hw 6 (by decide) h56_6]; decide]; rfl, rfl, rfl⟩
    · refine Ev_const rfl ?_
      exact Ev_ireturn rfl rfl rfl rfl ⟨by rw [show sgF 4 (wAt U s) = none by rw [hw 7 (by decide) h56_7]; decide]; rfl, rfl, rfl⟩
    · refine Ev_iload rfl rfl ?_
      refine Ev_if_eq rfl (fun h187 => absurd h187 (by decide)) (fun h187 => ?_)
      refine Ev_const rfl ?_
      refine Ev_goto rfl ?_
      exact Ev_ireturn rfl rfl rfl rfl ⟨by rw [show sgF 4 (wAt U s) = some 5 by rw [hw 8 (by decide) h56_8]; decide]; rfl, rfl, rfl⟩
    · refine Ev_const rfl ?_
      exact Ev_ireturn rfl rfl rfl rfl ⟨by rw [show sgF 4 (wAt U s) = none by rw [hw 9 (by decide) h56_9]; decide]; rfl, rfl, rfl⟩
    · refine Ev_const rfl ?_
      exact Ev_ireturn rfl rfl rfl rfl ⟨by rw [show sgF 4 (wAt U s) = none by rw [hw 10 (by decide) h56_10]; decide]; rfl, rfl, rfl⟩
    · refine Ev_const rfl ?_
      exact Ev_ireturn rfl rfl rfl rfl ⟨by rw [show sgF 4 (wAt U s) = none by rw [hw 11 (by decide) h56_11]; decide]; rfl, rfl, rfl⟩
    · refine Ev_const rfl ?_
      exact Ev_ireturn rfl rfl rfl rfl ⟨by rw [show sgF 4 (wAt U s) = none by rw [hw 12 (by decide) h56_12]; decide]; rfl, rfl, rfl⟩
    · refine Ev_const rfl ?_
      exact Ev_ireturn rfl rfl rfl rfl ⟨by rw [show sgF 4 (wAt U s) = some 0 by rw [hw 13 (by decide) h56_13]; decide]; rfl, rfl, rfl⟩
    · refine Ev_iload rfl rfl ?_
      refine Ev_if_eq rfl (fun h157 => absurd h157 (by decide)) (fun h157 => ?_)
      refine Ev_const rfl ?_
      refine Ev_goto rfl ?_
      exact Ev_ireturn rfl rfl rfl rfl ⟨by rw [show sgF 4 (wAt U s) = some 3 by rw [hw 14 (by decide) h56_14]; decide]; rfl, rfl, rfl⟩
    · refine Ev_aload rfl rfl rfl ?_
      refine Ev_getI rfl (by first | rfl | assumption) ?_
      refine Ev_norm (hk : _ = nI 4) ?_
      refine Ev_const rfl ?_
      refine Ev_icmp_ne rfl (fun h201 => ?_) (fun h201 => absurd (by decide) h201)
      refine Ev_const rfl ?_
      exact Ev_ireturn rfl rfl rfl rfl ⟨by rw [show sgF 4 (wAt U s) = none by rw [hw 15 (by decide) h56_15]; decide]; rfl, rfl, rfl⟩
    · refine Ev_aload rfl rfl rfl ?_
      refine Ev_getI rfl (by first | rfl | assumption) ?_
      refine Ev_norm (hk : _ = nI 4) ?_
      refine Ev_const rfl ?_
      refine Ev_icmp_ne rfl (fun h216 => ?_) (fun h216 => absurd (by decide) h216)
      refine Ev_const rfl ?_
      exact Ev_ireturn rfl rfl rfl rfl ⟨by rw [show sgF 4 (wAt U s) = none by rw [hw 16 (by decide) h56_16]; decide]; rfl, rfl, rfl⟩
    · refine Ev_aload rfl rfl rfl ?_
      refine Ev_getI rfl (by first | rfl | assumption) ?_
      refine Ev_norm (hk : _ = nI 4) ?_
      refine Ev_const rfl ?_
      refine Ev_icmp_ne rfl (fun h231 => absurd h231 (by decide)) (fun h231 => ?_)
      refine Ev_const rfl ?_
      refine Ev_goto rfl ?_
      exact Ev_ireturn rfl rfl rfl rfl ⟨by rw [show sgF 4 (wAt U s) = some 8 by rw [hw 17 (by decide) h56_17]; decide]; rfl, rfl, rfl⟩
    · refine Ev_const rfl ?_
      exact Ev_ireturn rfl rfl rfl rfl (by
      have hno : sgF 4 (wAt U s) = none := sg_no fun i hi z => by
        have := hw2 i hi z
        rcases (by omega : i = 0 ∨ i = 1 ∨ i = 2 ∨ i = 3 ∨ i = 4 ∨ i = 5 ∨ i = 6 ∨ i = 7 ∨ i = 8 ∨ i = 9 ∨ i = 10 ∨ i = 11 ∨ i = 12 ∨ i = 13 ∨ i = 14 ∨ i = 15 ∨ i = 16 ∨ i = 17) with rfl | rfl | rfl | rfl | rfl | rfl | rfl | rfl | rfl | rfl | rfl | rfl | rfl | rfl | rfl | rfl | rfl | rfl
        · exact g56_0 this
        · exact g56_1 this
        · exact g56_2 this
        · exact g56_3 this
        · exact g56_4 this
        · exact g56_5 this
        · exact g56_6 this
        · exact g56_7 this
        · exact g56_8 this
        · exact g56_9 this
        · exact g56_10 this
        · exact g56_11 this
        · exact g56_12 this
        · exact g56_13 this
        · exact g56_14 this
        · exact g56_15 this
        · exact g56_16 this
        · exact g56_17 this
      rw [hno]
      exact ⟨rfl, rfl, rfl⟩)
end S88m
