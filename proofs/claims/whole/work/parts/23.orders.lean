/-! The class's pile: orders of one value, and a formula's run. -/
def OrdO (ρ : Rf) (O : Nat) : Prop := isO 402 O 5 = true ∧ isA 402 (O + 1) 0 = true ∧ (shp (O + 1)).2 = 1620 ∧ isA 402 (O + 4) 0 = true ∧ (shp (O + 4)).2 = 64 ∧ O + 4 ≠ 266 ∧ ρ O 0 = some (O + 1) ∧ ρ O 3 = some (O + 4) ∧
  isA 402 (O + 2) 0 = true ∧ (shp (O + 2)).2 = 5 ∧ ρ O 1 = some (O + 2) ∧ isA 402 (O + 3) 0 = true ∧ (shp (O + 3)).2 = 5 ∧ ρ O 2 = some (O + 3)
theorem OrdO_of {ρ : Rf} (hρ : RF ρ) {O : Nat} (h : O = 12 ∨ O = 27 ∨ O = 319) : OrdO ρ O := by
  rcases h with rfl | rfl | rfl
  · exact ⟨rfl, rfl, rfl, rfl, rfl, by decide, hρ _ _ _ rfl, hρ _ _ _ rfl, rfl, rfl, hρ _ _ _ rfl, rfl, rfl, hρ _ _ _ rfl⟩
  · exact ⟨rfl, rfl, rfl, rfl, rfl, by decide, hρ _ _ _ rfl, hρ _ _ _ rfl, rfl, rfl, hρ _ _ _ rfl, rfl, rfl, hρ _ _ _ rfl⟩
  · exact ⟨rfl, rfl, rfl, rfl, rfl, by decide, hρ _ _ _ rfl, hρ _ _ _ rfl, rfl, rfl, hρ _ _ _ rfl, rfl, rfl, hρ _ _ _ rfl⟩
theorem nI_lit {t n : Nat} {z : Int32} (hz : z = nI n) (ht : t < 2 ^ 31) (hn : n < 2 ^ 31) : nI t = z ↔ t = n := by rw [hz]; exact nI_eq ht hn
theorem one_0 {see : Nat → Int} {t : Nat} {a : Int} (h : ¬ t = 33) (h2 : a < 0 ∨ 8 ≤ a) : one see t a = 0 := by unfold one; rw [if_neg h, if_pos h2]
theorem one_k {see : Nat → Int} {a : Int} (h2 : ¬ (a < 0 ∨ 8 ≤ a)) : one see 34 a = see (10 + a.toNat) := by unfold one; rw [if_neg (by decide), if_neg h2, if_pos rfl]
theorem one_r {see : Nat → Int} {a : Int} (h2 : ¬ (a < 0 ∨ 8 ≤ a)) : one see 35 a = (((see 9).toNat / 2 ^ a.toNat % 2 : Nat) : Int) := by unfold one; rw [if_neg (by decide), if_neg h2, if_neg (by decide)]
theorem iI_n (n : Nat) : iI ((n : Nat) : Int) = nI n := rfl
theorem sh_8 {R j : Nat} (hR : R < 256) (hj : j < 8) : (nI R >>> (nI j &&& 31)) &&& 1 = nI (R / 2 ^ j % 2) := by
  have h : (nI R >>> (nI j &&& 31)).toInt = (R : Int) >>> j := by
    rw [pk_shr (nI R) (nI j &&& 31) j (by
      match j, hj with
      | 0, _ => decide
      | 1, _ => decide
      | 2, _ => decide
      | 3, _ => decide
      | 4, _ => decide
      | 5, _ => decide
      | 6, _ => decide
      | 7, _ => decide), nI_toInt (by omega)]
  have h2 : (R : Int) >>> j = ((R / 2 ^ j : Nat) : Int) := by rw [Int.shiftRight_eq_div_pow]; rfl
  have h3 : nI R >>> (nI j &&& 31) = nI (R / 2 ^ j) := Int32.toInt_inj.mp (by
    rw [h, h2, nI_toInt (Nat.lt_of_le_of_lt (Nat.div_le_self _ _) (by omega))])
  rw [h3]
  exact pk_andN (Nat.lt_of_le_of_lt (Nat.div_le_self _ _) (by omega)) 1 (by decide)
theorem sh_n {n : Nat} (k : Nat) {s : Int32} (hs : ((s &&& 31).toBitVec.smod 32).toNat = k) (h : n < 2 ^ 31) : nI n >>> (s &&& 31) = nI (n / 2 ^ k) := by
  apply Int32.toInt_inj.mp
  rw [pk_shr (nI n) (s &&& 31) k hs, nI_toInt h, nI_toInt (Nat.lt_of_le_of_lt (Nat.div_le_self _ _) h), Int.shiftRight_eq_div_pow]
  rfl
section S23
variable {l : Launch} {X : Cx} {ρ : Rf} {σ : St}
theorem t_ofOne (d : Nat) {t : Nat} {x : Int32} {see : Nat → Int} {R : Nat} (ht : t = 33 ∨ t = 34 ∨ t = 35) (hs : ∀ s, s < 18 → σ.1 266 s = iI (see s)) (hR : see 9 = (R : Int)) (hR2 : R < 256) :
    T l X d 72 [.int (nI t), .int x, .ref 266] 402 402 ρ σ (Rs (.int (iI (one see t x.toInt))) ρ σ) := by
  have h8 : (8 : Int32).toInt = 8 := by decide
  refine T_of rfl ?_
  refine Ev_iload rfl rfl ?_
  refine Ev_const rfl ?_
  refine Ev_icmp_ne rfl (fun h3 => ?_) (fun h3 => ?_)
  · refine Ev_iload rfl rfl ?_
    refine Ev_if_lt rfl (fun h17 => ?_) (fun h17 => ?_)
    · refine Ev_const rfl ?_
      exact Ev_ireturn rfl rfl rfl rfl ⟨by rw [one_0 (fun q => h3 (by rw [q]; rfl)) (Or.inl (z_lt h17))]; rfl, rfl, rfl⟩
    · refine Ev_iload rfl rfl ?_
      refine Ev_const rfl ?_
      refine Ev_icmp_ge rfl (fun h23 => ?_) (fun h23 => ?_)
      · refine Ev_const rfl ?_
        exact Ev_ireturn rfl rfl rfl rfl ⟨by rw [one_0 (fun q => h3 (by rw [q]; rfl)) (Or.inr (by have := Int32.le_iff_toInt_le.mp h23; omega))]; rfl, rfl, rfl⟩
      · refine Ev_aload rfl rfl rfl ?_
        refine Ev_alen rfl rfl ?_
        refine Ev_const rfl ?_
        refine Ev_icmp_ge rfl (fun h30 => ?_) (fun h30 => absurd (show (18 : Int32) ≤ 18 by decide) h30)
        obtain ⟨j, hj, rfl⟩ := nI_of h17
        have hj8 : j < 8 := by
          rcases Nat.lt_or_ge j 8 with q | q
          · exact q
          · exact absurd (nI_le q hj) h23
        have hja : ¬ ((nI j).toInt < 0 ∨ 8 ≤ (nI j).toInt) := by rw [nI_toInt hj]; omega
        refine Ev_iload rfl rfl ?_
        refine Ev_const rfl ?_
        refine Ev_icmp_ne rfl (fun h38 => ?_) (fun h38 => ?_)
        · refine Ev_aload rfl rfl rfl ?_
          refine Ev_const rfl ?_
          refine Ev_iald rfl (by first | rfl | assumption) (vp_in_nI (n := 9) (by decide) (by decide)) ?_
          refine Ev_norm (show σ.1 266 9 = nI R by rw [hs 9 (by decide), hR, iI_n]) ?_
          refine Ev_iload rfl rfl ?_
          refine Ev_ishr rfl ?_
          refine Ev_const rfl ?_
          refine Ev_iand rfl ?_
          refine Ev_norm (sh_8 hR2 hj8) ?_
          exact Ev_ireturn rfl rfl rfl rfl ⟨by
            have e : t = 35 := by
              rcases ht with q | q | q
              · exact absurd (by rw [q]; rfl) h3
              · exact absurd (by rw [q]; rfl) h38
              · exact q
            rw [e, one_r hja, hR, nI_toInt hj, iI_n]
            rfl, rfl, rfl⟩
        · refine Ev_aload rfl rfl rfl ?_
          refine Ev_const rfl ?_
          refine Ev_iload rfl rfl ?_
          refine Ev_iadd rfl ?_
          refine Ev_norm (nI_add 10 j) ?_
          refine Ev_iald rfl (by first | rfl | assumption) (vp_in_nI (n := 10 + j) (show 10 + j < 18 by omega) (by decide)) ?_
          refine Ev_goto rfl ?_
          exact Ev_ireturn rfl rfl rfl rfl ⟨by
            have e : t = 34 := (nI_lit (z := 34) (n := 34) rfl (by omega) (by decide)).mp (Decidable.not_not.mp h38)
            rw [nI_clamp (by omega), hs _ (by omega), e, one_k hja, nI_toInt hj]
            rfl, rfl, rfl⟩
  · refine Ev_iload rfl rfl ?_
    refine Ev_if_ne rfl (fun h7 => ?_) (fun h7 => ?_)
    · refine Ev_const rfl ?_
      exact Ev_ireturn rfl rfl rfl rfl ⟨by
        have e : t = 33 := (nI_lit (z := 33) (n := 33) rfl (by omega) (by decide)).mp (Decidable.not_not.mp h3)
        rw [e]
        unfold one
        rw [if_pos rfl, if_neg (z_ne h7)]
        rfl, rfl, rfl⟩
    · refine Ev_const rfl ?_
      refine Ev_goto rfl ?_
      exact Ev_ireturn rfl rfl rfl rfl ⟨by
        have e : t = 33 := (nI_lit (z := 33) (n := 33) rfl (by omega) (by decide)).mp (Decidable.not_not.mp h3)
        rw [e, Decidable.not_not.mp h7]
        rfl, rfl, rfl⟩
/-- what the pile and the sights must be -/
def SeeR (σ : St) (see : Nat → Int) (k : Nat) : Prop := (∀ s, s < 18 → σ.1 266 s = iI (see s)) ∧ (∀ s, s < 9 → sOk k s = true → Bd (see s)) ∧ (k = 4 → ∀ s, 10 ≤ s → s < 18 → Bd (see s)) ∧ ∃ R : Nat, see 9 = (R : Int) ∧ R < 256
def ValQ (ρ : Rf) (σ : St) (O : Nat) (z : Int) : Po := fun v ρ' σ' => v = some (.int (iI z)) ∧ ρ' = ρ ∧ ∃ f, σ' = sI σ (O + 4) f
theorem ValQ_step {ρ : Rf} {σ : St} {O : Nat} {g : Nat → Int32} {z : Int} : ∀ v ρ' σ', ValQ ρ (sI σ (O + 4) g) O z v ρ' σ' → ValQ ρ σ O z v ρ' σ' := by
  rintro v ρ' σ' ⟨h1, h2, f, h3⟩
  exact ⟨h1, h2, f, by rw [h3, sI_sI]⟩
theorem Bd_b (b : Bool) {v : Int} (h : b = true → v = 0 ∨ v = 1) (h2 : Bd v) : Bd v ∧ (b = true → v = 0 ∨ v = 1) := ⟨h2, h⟩
theorem Bd_01 {v : Int} (h : v = 0 ∨ v = 1) : Bd v := by rcases h with rfl | rfl <;> exact ⟨by decide, by decide⟩
theorem z_iI {v : Int} (h : Bd v) : (iI v).toInt = v := to_iI ⟨by have := h.1; omega, by have := h.2; omega⟩
theorem OkS_1 {a : Int} {st : List Int} {b : Bool} {ts : List Bool} (h : Bd a) (h2 : b = true → a = 0 ∨ a = 1) (k : OkS st ts) : OkS (a :: st) (b :: ts) := ⟨⟨h, h2⟩, k⟩
theorem iI_01 {v : Int} (h : v = 0 ∨ v = 1) : iI v = 0 ∨ iI v = 1 := by
  rcases h with rfl | rfl
  · exact Or.inl rfl
  · exact Or.inr rfl
/-- the place behind an order: the loop's next turn -/
abbrev VL (l : Launch) (X : Cx) (d O kk : Nat) (w : Value) (top j : Nat) (ρ : Rf) (σ : St) (Q : Po) : Prop := Ev l X (d + 1) 71 14 [.ref O, .int (nI kk), .ref 266, .int (nI top), .int (nI j), w] [] 402 402 402 ρ σ Q
theorem v_sight {d O b j t top : Nat} {kk : Nat} {w : Value} {see : Nat → Int} {σ : St} {Q : Po} (hO : OrdO ρ O) (hkk : kk < 5) (hto : σ.1 (O + 3) kk = nI b) (hb : b ≤ 1620) (hj : j < b) (htop : top < 64) (hc0 : σ.1 (O + 1) j = nI (cc t)) (ht : t < 9) (hs : σ.1 266 t = iI (see t))
    (hn : VL l X d O kk (.int (nI t)) (top + 1) (j + 1) ρ (sI σ (O + 4) (upd (σ.1 (O + 4)) top (iI (see t)))) Q) : VL l X d O kk w top j ρ σ Q := by
  have hcc : cc t = t := if_neg (by omega)
  refine Ev_iload rfl rfl ?_
  refine Ev_aload rfl rfl rfl ?_
  refine Ev_getR rfl hO.1 hO.2.2.2.2.2.2.2.2.2.2.2.2.2 ?_
  refine Ev_iload rfl rfl ?_
  refine Ev_iald rfl hO.2.2.2.2.2.2.2.2.2.2.2.1 (by rw [hO.2.2.2.2.2.2.2.2.2.2.2.2.1]; exact vp_in_nI hkk (by decide)) ?_
  refine Ev_norm (by rw [nI_clamp (by omega)]; exact hto : _ = nI b) ?_
  refine Ev_icmp_ge rfl (fun h22 => absurd h22 (nI_ge (by omega) (by omega))) (fun h22 => ?_)
  refine Ev_iload rfl rfl ?_
  refine Ev_const rfl ?_
  refine Ev_icmp_ge rfl (fun h30 => absurd h30 (nI_ge (a := j) (b := 1620) (by omega) (by decide))) (fun h30 => ?_)
  refine Ev_aload rfl rfl rfl ?_
  refine Ev_getR rfl hO.1 hO.2.2.2.2.2.2.1 ?_
  refine Ev_iload rfl rfl ?_
  refine Ev_iald rfl hO.2.1 (by rw [hO.2.2.1]; exact vp_in_nI (by omega) (by decide)) ?_
  refine Ev_norm (by rw [nI_clamp (by omega)]; exact hc0 : _ = nI (cc t)) ?_
  refine Ev_const rfl ?_
  refine Ev_iand rfl ?_
  refine Ev_norm ((pk_andN (n := cc t) (by omega) 8 (by decide)).trans (by rw [hcc, Nat.mod_eq_of_lt (by omega)]) : _ = nI t) ?_
  refine Ev_istore rfl ?_
  refine Ev_iload rfl rfl ?_
  refine Ev_aload rfl rfl rfl ?_
  refine Ev_alen rfl rfl ?_
  refine Ev_icmp_ge rfl (fun h50 => absurd h50 (nI_ge (a := t) (b := 18) (by omega) (by decide))) (fun h50 => ?_)
  refine Ev_iload rfl rfl ?_
  refine Ev_const rfl ?_
  refine Ev_icmp_ge rfl (fun h56 => absurd h56 (nI_ge (b := 64) htop (by decide))) (fun h56 => ?_)
  refine Ev_aload rfl rfl rfl ?_
  refine Ev_getR rfl hO.1 hO.2.2.2.2.2.2.2.1 ?_
  refine Ev_iload rfl rfl ?_
  refine Ev_aload rfl rfl rfl ?_
  refine Ev_iload rfl rfl ?_
  refine Ev_iald rfl (by first | rfl | assumption) (vp_in_nI (show t < 18 by omega) (by decide)) ?_
  refine Ev_norm (by rw [nI_clamp (by omega)]; exact hs : _ = iI (see t)) ?_
  refine Ev_iast rfl hO.2.2.2.1 (by rw [hO.2.2.2.2.1]; exact vp_in_nI htop (by decide)) ?_
  refine Ev_st rfl (show _ = sI σ (O + 4) (upd (σ.1 (O + 4)) top (iI (see t))) by rw [nI_clamp (by omega)]) ?_
  refine Ev_iincE rfl rfl (nI_1 top) ?_
  refine Ev_goto rfl ?_
  refine Ev_iincE rfl rfl (nI_1 j) ?_
  refine Ev_goto rfl ?_
  exact hn
theorem v_number {d O b j t top : Nat} {kk : Nat} {w : Value} {σ : St} {Q : Po} (hO : OrdO ρ O) (hkk : kk < 5) (hto : σ.1 (O + 3) kk = nI b) (hb : b ≤ 1620) (hj : j < b) (htop : top < 64) (hc0 : σ.1 (O + 1) j = nI (cc t)) (ht : (t % 256 = 32 ∧ t / 256 ≤ 9999) ∨ t = 47)
    (hn : VL l X d O kk (.int (nI 32)) (top + 1) (j + 1) ρ (sI σ (O + 4) (upd (σ.1 (O + 4)) top (nI (cc t / 256)))) Q) : VL l X d O kk w top j ρ σ Q := by
  have hcc : cc t % 256 = 32 ∧ cc t / 256 ≤ 9999 := by
    unfold cc
    by_cases h : t = 47
    · rw [if_pos h]; exact ⟨by decide, by decide⟩
    · rw [if_neg h]; exact ht.elim id (fun q => absurd q h)
  have hcb : cc t < 2560000 := by omega
  refine Ev_iload rfl rfl ?_
  refine Ev_aload rfl rfl rfl ?_
  refine Ev_getR rfl hO.1 hO.2.2.2.2.2.2.2.2.2.2.2.2.2 ?_
  refine Ev_iload rfl rfl ?_
  refine Ev_iald rfl hO.2.2.2.2.2.2.2.2.2.2.2.1 (by rw [hO.2.2.2.2.2.2.2.2.2.2.2.2.1]; exact vp_in_nI hkk (by decide)) ?_
  refine Ev_norm (by rw [nI_clamp (by omega)]; exact hto : _ = nI b) ?_
  refine Ev_icmp_ge rfl (fun h22 => absurd h22 (nI_ge (by omega) (by omega))) (fun h22 => ?_)
  refine Ev_iload rfl rfl ?_
  refine Ev_const rfl ?_
  refine Ev_icmp_ge rfl (fun h30 => absurd h30 (nI_ge (a := j) (b := 1620) (by omega) (by decide))) (fun h30 => ?_)
  refine Ev_aload rfl rfl rfl ?_
  refine Ev_getR rfl hO.1 hO.2.2.2.2.2.2.1 ?_
  refine Ev_iload rfl rfl ?_
  refine Ev_iald rfl hO.2.1 (by rw [hO.2.2.1]; exact vp_in_nI (by omega) (by decide)) ?_
  refine Ev_norm (by rw [nI_clamp (by omega)]; exact hc0 : _ = nI (cc t)) ?_
  refine Ev_const rfl ?_
  refine Ev_iand rfl ?_
  refine Ev_norm ((pk_andN (n := cc t) (by omega) 8 (by decide)).trans (by rw [show cc t % 2 ^ 8 = 32 from hcc.1]) : _ = nI 32) ?_
  refine Ev_istore rfl ?_
  refine Ev_iload rfl rfl ?_
  refine Ev_aload rfl rfl rfl ?_
  refine Ev_alen rfl rfl ?_
  refine Ev_icmp_ge rfl (fun h50 => ?_) (fun h50 => absurd (show (18 : Int32) ≤ 32 by decide) h50)
  refine Ev_iload rfl rfl ?_
  refine Ev_const rfl ?_
  refine Ev_icmp_ne rfl (fun h79 => absurd rfl h79) (fun h79 => ?_)
  refine Ev_iload rfl rfl ?_
  refine Ev_const rfl ?_
  refine Ev_icmp_ge rfl (fun h85 => absurd h85 (nI_ge (b := 64) htop (by decide))) (fun h85 => ?_)
  refine Ev_aload rfl rfl rfl ?_
  refine Ev_getR rfl hO.1 hO.2.2.2.2.2.2.2.1 ?_
  refine Ev_iload rfl rfl ?_
  refine Ev_aload rfl rfl rfl ?_
  refine Ev_getR rfl hO.1 hO.2.2.2.2.2.2.1 ?_
  refine Ev_iload rfl rfl ?_
  refine Ev_iald rfl hO.2.1 (by rw [hO.2.2.1]; exact vp_in_nI (by omega) (by decide)) ?_
  refine Ev_norm (by rw [nI_clamp (by omega)]; exact hc0 : _ = nI (cc t)) ?_
  refine Ev_const rfl ?_
  refine Ev_ishr rfl ?_
  refine Ev_norm (sh_n 8 (by decide) (by omega) : _ = nI (cc t / 2 ^ 8)) ?_
  refine Ev_iast rfl hO.2.2.2.1 (by rw [hO.2.2.2.2.1]; exact vp_in_nI htop (by decide)) ?_
  refine Ev_st rfl (show _ = sI σ (O + 4) (upd (σ.1 (O + 4)) top (nI (cc t / 256))) by rw [nI_clamp (by omega)]) ?_
  refine Ev_iincE rfl rfl (nI_1 top) ?_
  refine Ev_goto rfl ?_
  refine Ev_iincE rfl rfl (nI_1 j) ?_
  refine Ev_goto rfl ?_
  exact hn
theorem v_one {d O b j t top : Nat} {kk : Nat} {w : Value} {see : Nat → Int} {a : Int} {R : Nat} {σ : St} {Q : Po} (hO : OrdO ρ O) (hkk : kk < 5) (hto : σ.1 (O + 3) kk = nI b) (hb : b ≤ 1620) (hj : j < b) (htop : top < 64) (hc0 : σ.1 (O + 1) j = nI (cc t)) (ht : t = 33 ∨ t = 34 ∨ t = 35) (ha : σ.1 (O + 4) top = iI a) (hab : Bd a)
    (hs : ∀ s, s < 18 → σ.1 266 s = iI (see s)) (hR : see 9 = (R : Int)) (hR2 : R < 256)
    (hn : VL l X d O kk (.int (nI t)) (top + 1) (j + 1) ρ (sI σ (O + 4) (upd (σ.1 (O + 4)) top (iI (one see t a)))) Q) : VL l X d O kk w (top + 1) j ρ σ Q := by
  have hcc : cc t = t := if_neg (by omega)
  refine Ev_iload rfl rfl ?_
  refine Ev_aload rfl rfl rfl ?_
  refine Ev_getR rfl hO.1 hO.2.2.2.2.2.2.2.2.2.2.2.2.2 ?_
  refine Ev_iload rfl rfl ?_
  refine Ev_iald rfl hO.2.2.2.2.2.2.2.2.2.2.2.1 (by rw [hO.2.2.2.2.2.2.2.2.2.2.2.2.1]; exact vp_in_nI hkk (by decide)) ?_
  refine Ev_norm (by rw [nI_clamp (by omega)]; exact hto : _ = nI b) ?_
  refine Ev_icmp_ge rfl (fun h22 => absurd h22 (nI_ge (by omega) (by omega))) (fun h22 => ?_)
  refine Ev_iload rfl rfl ?_
  refine Ev_const rfl ?_
  refine Ev_icmp_ge rfl (fun h30 => absurd h30 (nI_ge (a := j) (b := 1620) (by omega) (by decide))) (fun h30 => ?_)
  refine Ev_aload rfl rfl rfl ?_
  refine Ev_getR rfl hO.1 hO.2.2.2.2.2.2.1 ?_
  refine Ev_iload rfl rfl ?_
  refine Ev_iald rfl hO.2.1 (by rw [hO.2.2.1]; exact vp_in_nI (by omega) (by decide)) ?_
  refine Ev_norm (by rw [nI_clamp (by omega)]; exact hc0 : _ = nI (cc t)) ?_
  refine Ev_const rfl ?_
  refine Ev_iand rfl ?_
  refine Ev_norm ((pk_andN (n := cc t) (by omega) 8 (by decide)).trans (by rw [hcc, Nat.mod_eq_of_lt (by omega)]) : _ = nI t) ?_
  refine Ev_istore rfl ?_
  refine Ev_iload rfl rfl ?_
  refine Ev_aload rfl rfl rfl ?_
  refine Ev_alen rfl rfl ?_
  refine Ev_icmp_ge rfl (fun h50 => ?_) (fun h50 => absurd (nI_le (a := 18) (b := t) (by omega) (by omega)) h50)
  refine Ev_iload rfl rfl ?_
  refine Ev_const rfl ?_
  refine Ev_icmp_ne rfl (fun h79 => ?_) (fun h79 => absurd ((nI_lit (z := 32) (n := 32) rfl (by omega) (by decide)).mp (Decidable.not_not.mp h79)) (by omega))
  refine Ev_iload rfl rfl ?_
  refine Ev_const rfl ?_
  refine Ev_icmp_lt rfl (fun h114 => absurd h114 (nI_nlt (b := 33) (by omega) (by omega))) (fun h114 => ?_)
  refine Ev_iload rfl rfl ?_
  refine Ev_const rfl ?_
  refine Ev_icmp_gt rfl (fun h121 => absurd h121 (nI_nlt (b := t) (a := 35) (by omega) (by decide))) (fun h121 => ?_)
  refine Ev_iload rfl rfl ?_
  refine Ev_const rfl ?_
  refine Ev_icmp_lt rfl (fun h126 => absurd h126 (nI_nlt (b := 1) (by omega) (by omega))) (fun h126 => ?_)
  refine Ev_aload rfl rfl rfl ?_
  refine Ev_getR rfl hO.1 hO.2.2.2.2.2.2.2.1 ?_
  refine Ev_iload rfl rfl ?_
  refine Ev_const rfl ?_
  refine Ev_isub rfl ?_
  refine Ev_norm (nI_pred top) ?_
  refine Ev_iload rfl rfl ?_
  refine Ev_aload rfl rfl rfl ?_
  refine Ev_getR rfl hO.1 hO.2.2.2.2.2.2.2.1 ?_
  refine Ev_iload rfl rfl ?_
  refine Ev_const rfl ?_
  refine Ev_isub rfl ?_
  refine Ev_norm (nI_pred top) ?_
  refine Ev_iald rfl hO.2.2.2.1 (by rw [hO.2.2.2.2.1]; exact vp_in_nI htop (by decide)) ?_
  refine Ev_norm (by rw [nI_clamp (by omega)]; exact ha : _ = iI a) ?_
  refine Ev_aload rfl rfl rfl ?_
  refine Ev_callS rfl rfl rfl rfl (same_n 402) (t_ofOne _ ht hs hR hR2) ?_
  rintro v147 ρ147 σ147 ⟨rfl, e147, g147⟩
  obtain rfl := e147.symm
  obtain rfl := g147.symm
  refine Ev_norm (by rw [z_iI hab] : _ = iI (one see t a)) ?_
  refine Ev_iast rfl hO.2.2.2.1 (by rw [hO.2.2.2.2.1]; exact vp_in_nI htop (by decide)) ?_
  refine Ev_st rfl (show _ = sI σ (O + 4) (upd (σ.1 (O + 4)) top (iI (one see t a))) by rw [nI_clamp (by omega)]) ?_
  refine Ev_goto rfl ?_
  refine Ev_iincE rfl rfl (nI_1 j) ?_
  refine Ev_goto rfl ?_
  exact hn
theorem v_two {d O b j t top : Nat} {kk : Nat} {w : Value} {x y : Int} {σ : St} {Q : Po} (hO : OrdO ρ O) (hkk : kk < 5) (hto : σ.1 (O + 3) kk = nI b) (hb : b ≤ 1620) (hj : j < b) (htop : top + 1 < 64) (hc0 : σ.1 (O + 1) j = nI (cc t)) (ht : 36 ≤ t ∧ t ≤ 46) (hx : σ.1 (O + 4) top = iI x) (hy : σ.1 (O + 4) (top + 1) = iI y) (hxb : Bd x) (hyb : Bd y)
    (h01 : t = 43 ∨ t = 44 → (x = 0 ∨ x = 1) ∧ (y = 0 ∨ y = 1))
    (hn : VL l X d O kk (.int (nI t)) (top + 1) (j + 1) ρ (sI σ (O + 4) (upd (σ.1 (O + 4)) top (iI (two t x y)))) Q) : VL l X d O kk w (top + 2) j ρ σ Q := by
  have hcc : cc t = t := if_neg (by omega)
  have hti : (nI t).toInt = (t : Int) := nI_toInt (by omega)
  refine Ev_iload rfl rfl ?_
  refine Ev_aload rfl rfl rfl ?_
  refine Ev_getR rfl hO.1 hO.2.2.2.2.2.2.2.2.2.2.2.2.2 ?_
  refine Ev_iload rfl rfl ?_
  refine Ev_iald rfl hO.2.2.2.2.2.2.2.2.2.2.2.1 (by rw [hO.2.2.2.2.2.2.2.2.2.2.2.2.1]; exact vp_in_nI hkk (by decide)) ?_
  refine Ev_norm (by rw [nI_clamp (by omega)]; exact hto : _ = nI b) ?_
  refine Ev_icmp_ge rfl (fun h22 => absurd h22 (nI_ge (by omega) (by omega))) (fun h22 => ?_)
  refine Ev_iload rfl rfl ?_
  refine Ev_const rfl ?_
  refine Ev_icmp_ge rfl (fun h30 => absurd h30 (nI_ge (a := j) (b := 1620) (by omega) (by decide))) (fun h30 => ?_)
  refine Ev_aload rfl rfl rfl ?_
  refine Ev_getR rfl hO.1 hO.2.2.2.2.2.2.1 ?_
  refine Ev_iload rfl rfl ?_
  refine Ev_iald rfl hO.2.1 (by rw [hO.2.2.1]; exact vp_in_nI (by omega) (by decide)) ?_
  refine Ev_norm (by rw [nI_clamp (by omega)]; exact hc0 : _ = nI (cc t)) ?_
  refine Ev_const rfl ?_
  refine Ev_iand rfl ?_
  refine Ev_norm ((pk_andN (n := cc t) (by omega) 8 (by decide)).trans (by rw [hcc, Nat.mod_eq_of_lt (by omega)]) : _ = nI t) ?_
  refine Ev_istore rfl ?_
  refine Ev_iload rfl rfl ?_
  refine Ev_aload rfl rfl rfl ?_
  refine Ev_alen rfl rfl ?_
  refine Ev_icmp_ge rfl (fun h50 => ?_) (fun h50 => absurd (nI_le (a := 18) (b := t) (by omega) (by omega)) h50)
  refine Ev_iload rfl rfl ?_
  refine Ev_const rfl ?_
  refine Ev_icmp_ne rfl (fun h79 => ?_) (fun h79 => absurd ((nI_lit (z := 32) (n := 32) rfl (by omega) (by decide)).mp (Decidable.not_not.mp h79)) (by omega))
  refine Ev_iload rfl rfl ?_
  refine Ev_const rfl ?_
  refine Ev_icmp_lt rfl (fun h114 => absurd h114 (nI_nlt (b := 33) (by omega) (by omega))) (fun h114 => ?_)
  refine Ev_iload rfl rfl ?_
  refine Ev_const rfl ?_
  refine Ev_icmp_gt rfl (fun h121 => ?_) (fun h121 => absurd (nI_lt (a := 35) (b := t) (by omega) (by omega)) h121)
  refine Ev_iload rfl rfl ?_
  refine Ev_const rfl ?_
  refine Ev_icmp_le rfl (fun h158 => absurd h158 (nI_ge (a := 35) (b := t) (by omega) (by omega))) (fun h158 => ?_)
  refine Ev_iload rfl rfl ?_
  refine Ev_const rfl ?_
  refine Ev_icmp_lt rfl (fun h163 => absurd h163 (nI_nlt (b := 2) (by omega) (by omega))) (fun h163 => ?_)
  refine Ev_iincE rfl rfl (pk_m1 (top + 1)) ?_
  refine Ev_aload rfl rfl rfl ?_
  refine Ev_getR rfl hO.1 hO.2.2.2.2.2.2.2.1 ?_
  refine Ev_iload rfl rfl ?_
  refine Ev_const rfl ?_
  refine Ev_isub rfl ?_
  refine Ev_norm (nI_pred top) ?_
  refine Ev_iload rfl rfl ?_
  refine Ev_aload rfl rfl rfl ?_
  refine Ev_getR rfl hO.1 hO.2.2.2.2.2.2.2.1 ?_
  refine Ev_iload rfl rfl ?_
  refine Ev_const rfl ?_
  refine Ev_isub rfl ?_
  refine Ev_norm (nI_pred top) ?_
  refine Ev_iald rfl hO.2.2.2.1 (by rw [hO.2.2.2.2.1]; exact vp_in_nI (by omega) (by decide)) ?_
  refine Ev_norm (by rw [nI_clamp (by omega)]; exact hx : _ = iI x) ?_
  refine Ev_aload rfl rfl rfl ?_
  refine Ev_getR rfl hO.1 hO.2.2.2.2.2.2.2.1 ?_
  refine Ev_iload rfl rfl ?_
  refine Ev_iald rfl hO.2.2.2.1 (by rw [hO.2.2.2.2.1]; exact vp_in_nI htop (by decide)) ?_
  refine Ev_norm (by rw [nI_clamp (by omega)]; exact hy : _ = iI y) ?_
  refine Ev_callS rfl rfl rfl rfl (same_n 402) (t_ofTwo _ (by rw [z_iI hxb]; exact hxb) (by rw [z_iI hyb]; exact hyb) (fun q => ⟨iI_01 (h01 (by omega)).1, iI_01 (h01 (by omega)).2⟩)) ?_
  rintro v192 ρ192 σ192 ⟨rfl, e192, g192⟩
  obtain rfl := e192.symm
  obtain rfl := g192.symm
  refine Ev_norm (by rw [z_iI hxb, z_iI hyb, hti] : _ = iI (two t x y)) ?_
  refine Ev_iast rfl hO.2.2.2.1 (by rw [hO.2.2.2.2.1]; exact vp_in_nI (by omega) (by decide)) ?_
  refine Ev_st rfl (show _ = sI σ (O + 4) (upd (σ.1 (O + 4)) top (iI (two t x y))) by rw [nI_clamp (by omega)]) ?_
  refine Ev_iincE rfl rfl (nI_1 j) ?_
  refine Ev_goto rfl ?_
  exact hn
end S23
