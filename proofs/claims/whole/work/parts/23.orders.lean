/-! The class's pile: orders of one value, and a formula's run. -/
def OrdO (ρ : Rf) (O : Nat) : Prop := isO 400 O 5 = true ∧ isA 400 (O + 1) 0 = true ∧ (shp (O + 1)).2 = 1620 ∧ isA 400 (O + 2) 0 = true ∧ (shp (O + 2)).2 = 64 ∧ O + 2 ≠ 266 ∧ ρ O 0 = some (O + 1) ∧ ρ O 1 = some (O + 2)
theorem OrdO_of {ρ : Rf} (hρ : RF ρ) {O : Nat} (h : O = 12 ∨ O = 27 ∨ O = 319) : OrdO ρ O := by
  rcases h with rfl | rfl | rfl
  · exact ⟨rfl, rfl, rfl, rfl, rfl, by decide, hρ _ _ _ rfl, hρ _ _ _ rfl⟩
  · exact ⟨rfl, rfl, rfl, rfl, rfl, by decide, hρ _ _ _ rfl, hρ _ _ _ rfl⟩
  · exact ⟨rfl, rfl, rfl, rfl, rfl, by decide, hρ _ _ _ rfl, hρ _ _ _ rfl⟩
theorem nI_lit {t n : Nat} {z : Int32} (hz : z = nI n) (ht : t < 2 ^ 31) (hn : n < 2 ^ 31) : nI t = z ↔ t = n := by rw [hz]; exact nI_eq ht hn
theorem one_0 {see : Nat → Int} {t : Nat} {a : Int} (h : ¬ t = 33) (h2 : a < 0 ∨ 8 ≤ a) : one see t a = 0 := by unfold one; rw [if_neg h, if_pos h2]
theorem one_k {see : Nat → Int} {a : Int} (h2 : ¬ (a < 0 ∨ 8 ≤ a)) : one see 34 a = see (10 + a.toNat) := by unfold one; rw [if_neg (by decide), if_neg h2, if_pos rfl]
theorem one_r {see : Nat → Int} {a : Int} (h2 : ¬ (a < 0 ∨ 8 ≤ a)) : one see 35 a = (((see 9).toNat / 2 ^ a.toNat % 2 : Nat) : Int) := by unfold one; rw [if_neg (by decide), if_neg h2, if_neg (by decide)]
theorem iI_n (n : Nat) : iI ((n : Nat) : Int) = nI n := rfl
theorem sh_8 {R j : Nat} (hR : R < 256) (hj : j < 8) : (nI R >>> (nI j &&& 31)) &&& 1 = nI (R / 2 ^ j % 2) := by
  have h : (nI R >>> (nI j &&& 31)).toInt = (R : Int) >>> j := by
    rw [pk_shr (nI R) (nI j &&& 31) j (by
      match j, hj with
      | 0, _ => decide
      | 1, _ => decide
      | 2, _ => decide
      | 3, _ => decide
      | 4, _ => decide
      | 5, _ => decide
      | 6, _ => decide
      | 7, _ => decide), nI_toInt (by omega)]
  have h2 : (R : Int) >>> j = ((R / 2 ^ j : Nat) : Int) := by rw [Int.shiftRight_eq_div_pow]; rfl
  have h3 : nI R >>> (nI j &&& 31) = nI (R / 2 ^ j) := Int32.toInt_inj.mp (by
    rw [h, h2, nI_toInt (Nat.lt_of_le_of_lt (Nat.div_le_self _ _) (by omega))])
  rw [h3]
  exact pk_andN (Nat.lt_of_le_of_lt (Nat.div_le_self _ _) (by omega)) 1 (by decide)
section S23
variable {l : Launch} {X : Cx} {ρ : Rf} {σ : St}
theorem t_ofOne (d : Nat) {t : Nat} {x : Int32} {see : Nat → Int} {R : Nat} (ht : t = 33 ∨ t = 34 ∨ t = 35) (hs : ∀ s, s < 18 → σ.1 266 s = iI (see s)) (hR : see 9 = (R : Int)) (hR2 : R < 256) :
    T l X d 72 [.int (nI t), .int x, .ref 266] 400 400 ρ σ (Rs (.int (iI (one see t x.toInt))) ρ σ) := by
  have h8 : (8 : Int32).toInt = 8 := by decide
  refine T_of rfl ?_
  refine Ev_iload rfl rfl ?_
  refine Ev_const rfl ?_
  refine Ev_icmp_ne rfl (fun h3 => ?_) (fun h3 => ?_)
  · refine Ev_iload rfl rfl ?_
    refine Ev_if_lt rfl (fun h17 => ?_) (fun h17 => ?_)
    · refine Ev_const rfl ?_
      exact Ev_ireturn rfl rfl rfl rfl ⟨by rw [one_0 (fun q => h3 (by rw [q]; rfl)) (Or.inl (z_lt h17))]; rfl, rfl, rfl⟩
    · refine Ev_iload rfl rfl ?_
      refine Ev_const rfl ?_
      refine Ev_icmp_ge rfl (fun h23 => ?_) (fun h23 => ?_)
      · refine Ev_const rfl ?_
        exact Ev_ireturn rfl rfl rfl rfl ⟨by rw [one_0 (fun q => h3 (by rw [q]; rfl)) (Or.inr (by have := Int32.le_iff_toInt_le.mp h23; omega))]; rfl, rfl, rfl⟩
      · refine Ev_aload rfl rfl rfl ?_
        refine Ev_alen rfl rfl ?_
        refine Ev_const rfl ?_
        refine Ev_icmp_ge rfl (fun h30 => ?_) (fun h30 => absurd (show (18 : Int32) ≤ 18 by decide) h30)
        obtain ⟨j, hj, rfl⟩ := nI_of h17
        have hj8 : j < 8 := by
          rcases Nat.lt_or_ge j 8 with q | q
          · exact q
          · exact absurd (nI_le q hj) h23
        have hja : ¬ ((nI j).toInt < 0 ∨ 8 ≤ (nI j).toInt) := by rw [nI_toInt hj]; omega
        refine Ev_iload rfl rfl ?_
        refine Ev_const rfl ?_
        refine Ev_icmp_ne rfl (fun h38 => ?_) (fun h38 => ?_)
        · refine Ev_aload rfl rfl rfl ?_
          refine Ev_const rfl ?_
          refine Ev_iald rfl (by first | rfl | assumption) (vp_in_nI (n := 9) (by decide) (by decide)) ?_
          refine Ev_norm (show σ.1 266 9 = nI R by rw [hs 9 (by decide), hR, iI_n]) ?_
          refine Ev_iload rfl rfl ?_
          refine Ev_ishr rfl ?_
          refine Ev_const rfl ?_
          refine Ev_iand rfl ?_
          refine Ev_norm (sh_8 hR2 hj8) ?_
          exact Ev_ireturn rfl rfl rfl rfl ⟨by
            have e : t = 35 := by
              rcases ht with q | q | q
              · exact absurd (by rw [q]; rfl) h3
              · exact absurd (by rw [q]; rfl) h38
              · exact q
            rw [e, one_r hja, hR, nI_toInt hj, iI_n]
            rfl, rfl, rfl⟩
        · refine Ev_aload rfl rfl rfl ?_
          refine Ev_const rfl ?_
          refine Ev_iload rfl rfl ?_
          refine Ev_iadd rfl ?_
          refine Ev_norm (nI_add 10 j) ?_
          refine Ev_iald rfl (by first | rfl | assumption) (vp_in_nI (n := 10 + j) (show 10 + j < 18 by omega) (by decide)) ?_
          refine Ev_goto rfl ?_
          exact Ev_ireturn rfl rfl rfl rfl ⟨by
            have e : t = 34 := (nI_lit (z := 34) (n := 34) rfl (by omega) (by decide)).mp (Decidable.not_not.mp h38)
            rw [nI_clamp (by omega), hs _ (by omega), e, one_k hja, nI_toInt hj]
            rfl, rfl, rfl⟩
  · refine Ev_iload rfl rfl ?_
    refine Ev_if_ne rfl (fun h7 => ?_) (fun h7 => ?_)
    · refine Ev_const rfl ?_
      exact Ev_ireturn rfl rfl rfl rfl ⟨by
        have e : t = 33 := (nI_lit (z := 33) (n := 33) rfl (by omega) (by decide)).mp (Decidable.not_not.mp h3)
        rw [e]
        unfold one
        rw [if_pos rfl, if_neg (z_ne h7)]
        rfl, rfl, rfl⟩
    · refine Ev_const rfl ?_
      refine Ev_goto rfl ?_
      exact Ev_ireturn rfl rfl rfl rfl ⟨by
        have e : t = 33 := (nI_lit (z := 33) (n := 33) rfl (by omega) (by decide)).mp (Decidable.not_not.mp h3)
        rw [e, Decidable.not_not.mp h7]
        rfl, rfl, rfl⟩
end S23
